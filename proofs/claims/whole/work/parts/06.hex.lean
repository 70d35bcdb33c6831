theorem d_Hex_exponentBits_0 : decode cd_Hex_exponentBits 0 = .ok (.lload_n 0, 1) := by decide +kernel
theorem d_Hex_exponentBits_1 : decode cd_Hex_exponentBits 1 = .ok (.bipush 52, 2) := by decide +kernel
theorem d_Hex_exponentBits_3 : decode cd_Hex_exponentBits 3 = .ok (.lushr, 1) := by decide +kernel
theorem d_Hex_exponentBits_4 : decode cd_Hex_exponentBits 4 = .ok (.l2i, 1) := by decide +kernel
theorem d_Hex_exponentBits_5 : decode cd_Hex_exponentBits 5 = .ok (.sipush 2047, 3) := by decide +kernel
theorem d_Hex_exponentBits_8 : decode cd_Hex_exponentBits 8 = .ok (.iand, 1) := by decide +kernel
theorem d_Hex_exponentBits_9 : decode cd_Hex_exponentBits 9 = .ok (.ireturn, 1) := by decide +kernel
def f_Hex_exponentBits (a1 : Int64) : Option Int32 :=
  some (((a1.toUInt64 >>> ((52 : Int32).toInt64.toUInt64 &&& Int64.toUInt64 63)).toInt64).toInt32 &&& (2047 : Int32))
set_option maxHeartbeats 4000000 in
set_option maxRecDepth 100000 in
theorem c_Hex_exponentBits (l : Launch) (G : Gt) (K : Nat) (a1 : Int64) (sz : Nat) (res : Int32)   (hf : f_Hex_exponentBits a1 = some res) : Met l y_Hex_exponentBits (.code y_Hex_exponentBits cd_Hex_exponentBits 2 (some .int) :: gw) { frames := 0, cells := 0, slots := 0, locals := 0 } (PC G ([.long a1] : List Value) sz (w_Preconditions_checkIndexn G )) (QI G res (va_A (w_Preconditions_checkIndexn G ) sz) (w_Preconditions_checkIndexn G )) 0 0 (va_A (w_Preconditions_checkIndexn G ) sz) := by
  refine Met.ofW (cc := cd_Hex_exponentBits) (maxL := 2) (ret := (some .int)) (by decide) rfl ?_
  intro p e s m args below meth c s₁ B hml hv
  obtain ⟨rfl, hsz, hP, hE, hD0⟩ := hv
  have hx := B.exec
  have hb := B.bytes
  have hr := B.returns
  have hts := atoms_spec (ws := (.code y_Hex_exponentBits cd_Hex_exponentBits 2 (some .int) :: gw)) B.pre
  have hg : ∀ w ∈ gw, w.before _ s = true := fun w h => hts w (List.mem_cons_of_mem _ h)
  have hown : s.vm.findClass R_Hex = some m.cls := findClass_of_methodNamed B.named
  have hlocks := B.notSynchronized
  subst hsz
  have hK := hE.K
  have hD := hD0.self (sz := s.heap.size)
  have hAb := hE.ab hD0
  obtain ⟨Q, hQ⟩ : ∃ Q, MQ below (QI G res (va_A (w_Preconditions_checkIndexn G ) s.heap.size) (w_Preconditions_checkIndexn G )) ([.long a1] : List Value).toArray s 0 0 (va_A (w_Preconditions_checkIndexn G ) s.heap.size) = Q := ⟨_, rfl⟩
  show W p l e { frames := 0, cells := 0, slots := 0, locals := 0 } s m ([.long a1] : List Value).toArray below meth c s.heap [] 0 0 (MQ below (QI G res (va_A (w_Preconditions_checkIndexn G ) s.heap.size) (w_Preconditions_checkIndexn G )) ([.long a1] : List Value).toArray s 0 0 (va_A (w_Preconditions_checkIndexn G ) s.heap.size)) _
  rw [hQ]
  have hA : ∀ q : Nat, s.heap.size ≤ q → va_A (w_Preconditions_checkIndexn G ) s.heap.size q := fun q h => Or.inr h
  obtain ⟨A, hAe⟩ : ∃ A, va_A (w_Preconditions_checkIndexn G ) s.heap.size = A := ⟨_, rfl⟩
  rw [hAe] at hA hD hAb hQ
  have hS : va_S A s.heap s.heap [] := va_S.rf
  have hl := lv_entry (([.long a1] : List Value)) (n := 2) (Nat.le_of_ble_eq_true rfl)
  rw [lg_entry_eq]
  generalize (lg_sl (([.long a1] : List Value)) ++ List.replicate (2 - (lg_sl (([.long a1] : List Value))).length) Slot.unset).toArray = ls at hl ⊢
  have hl : lv_has ls 2 [(0, .long a1)] := hl
  unfold f_Hex_exponentBits at hf
  refine lv_lload_n hx hb d_Hex_exponentBits_0 rfl (lv_at hl 0 rfl) ?_
  refine lv_bipush (v := 52) hx hb d_Hex_exponentBits_1 (by decide) ?_
  refine lv_lushr (v := (a1.toUInt64 >>> ((52 : Int32).toInt64.toUInt64 &&& Int64.toUInt64 63)).toInt64) hx hb d_Hex_exponentBits_3 rfl ?_
  refine lv_l2i (v := ((a1.toUInt64 >>> ((52 : Int32).toInt64.toUInt64 &&& Int64.toUInt64 63)).toInt64).toInt32) hx hb d_Hex_exponentBits_4 rfl ?_
  refine lv_sipush (v := 2047) hx hb d_Hex_exponentBits_5 (by decide) ?_
  refine lv_iand hx hb d_Hex_exponentBits_8 ?_
  obtain rfl := Option.some.inj hf
  rw [← hQ]
  exact W.iret (v := (((a1.toUInt64 >>> ((52 : Int32).toInt64.toUInt64 &&& Int64.toUInt64 63)).toInt64).toInt32 &&& (2047 : Int32))) hx hb hr (fun t9 ht hW => ⟨⟨(((a1.toUInt64 >>> ((52 : Int32).toInt64.toUInt64 &&& Int64.toUInt64 63)).toInt64).toInt32 &&& (2047 : Int32)), (), rfl, rfl, ⟨by rw [ht]; exact hP, hD⟩⟩, hS.F ht⟩) hS.2.2 d_Hex_exponentBits_9
theorem d_Hex_take_0 : decode cd_Hex_take 0 = .ok (.aload_n 0, 1) := by decide +kernel
theorem d_Hex_take_1 : decode cd_Hex_take 1 = .ok (.bipush 13, 2) := by decide +kernel
theorem d_Hex_take_3 : decode cd_Hex_take 3 = .ok (.putfield 9, 3) := by decide +kernel
theorem d_Hex_take_6 : decode cd_Hex_take 6 = .ok (.aload_n 0, 1) := by decide +kernel
theorem d_Hex_take_7 : decode cd_Hex_take 7 = .ok (.iconst 0, 1) := by decide +kernel
theorem d_Hex_take_8 : decode cd_Hex_take 8 = .ok (.putfield 13, 3) := by decide +kernel
theorem d_Hex_take_11 : decode cd_Hex_take 11 = .ok (.aload_n 0, 1) := by decide +kernel
theorem d_Hex_take_12 : decode cd_Hex_take 12 = .ok (.lload_n 1, 1) := by decide +kernel
theorem d_Hex_take_13 : decode cd_Hex_take 13 = .ok (.ldc2_w 16, 3) := by decide +kernel
theorem d_Hex_take_16 : decode cd_Hex_take 16 = .ok (.land, 1) := by decide +kernel
theorem d_Hex_take_17 : decode cd_Hex_take 17 = .ok (.putfield 18, 3) := by decide +kernel
theorem d_Hex_take_20 : decode cd_Hex_take 20 = .ok (.lload_n 1, 1) := by decide +kernel
theorem d_Hex_take_21 : decode cd_Hex_take 21 = .ok (.invokestatic 22, 3) := by decide +kernel
theorem d_Hex_take_24 : decode cd_Hex_take 24 = .ok (.istore_n 3, 1) := by decide +kernel
theorem d_Hex_take_25 : decode cd_Hex_take 25 = .ok (.iload_n 3, 1) := by decide +kernel
theorem d_Hex_take_26 : decode cd_Hex_take 26 = .ok (.ifCond .eq 27, 3) := by decide +kernel
theorem d_Hex_take_29 : decode cd_Hex_take 29 = .ok (.aload_n 0, 1) := by decide +kernel
theorem d_Hex_take_30 : decode cd_Hex_take 30 = .ok (.dup, 1) := by decide +kernel
theorem d_Hex_take_31 : decode cd_Hex_take 31 = .ok (.getfield 18, 3) := by decide +kernel
theorem d_Hex_take_34 : decode cd_Hex_take 34 = .ok (.ldc2_w 26, 3) := by decide +kernel
theorem d_Hex_take_37 : decode cd_Hex_take 37 = .ok (.lor, 1) := by decide +kernel
theorem d_Hex_take_38 : decode cd_Hex_take 38 = .ok (.putfield 18, 3) := by decide +kernel
theorem d_Hex_take_41 : decode cd_Hex_take 41 = .ok (.aload_n 0, 1) := by decide +kernel
theorem d_Hex_take_42 : decode cd_Hex_take 42 = .ok (.iload_n 3, 1) := by decide +kernel
theorem d_Hex_take_43 : decode cd_Hex_take 43 = .ok (.sipush 1023, 3) := by decide +kernel
theorem d_Hex_take_46 : decode cd_Hex_take 46 = .ok (.isub, 1) := by decide +kernel
theorem d_Hex_take_47 : decode cd_Hex_take 47 = .ok (.putfield 13, 3) := by decide +kernel
theorem d_Hex_take_50 : decode cd_Hex_take 50 = .ok (.goto 68, 3) := by decide +kernel
theorem d_Hex_take_53 : decode cd_Hex_take 53 = .ok (.aload_n 0, 1) := by decide +kernel
theorem d_Hex_take_54 : decode cd_Hex_take 54 = .ok (.getfield 18, 3) := by decide +kernel
theorem d_Hex_take_57 : decode cd_Hex_take 57 = .ok (.lconst 0, 1) := by decide +kernel
theorem d_Hex_take_58 : decode cd_Hex_take 58 = .ok (.lcmp, 1) := by decide +kernel
theorem d_Hex_take_59 : decode cd_Hex_take 59 = .ok (.ifCond .eq 59, 3) := by decide +kernel
theorem d_Hex_take_62 : decode cd_Hex_take 62 = .ok (.aload_n 0, 1) := by decide +kernel
theorem d_Hex_take_63 : decode cd_Hex_take 63 = .ok (.sipush (-1022), 3) := by decide +kernel
theorem d_Hex_take_66 : decode cd_Hex_take 66 = .ok (.putfield 13, 3) := by decide +kernel
theorem d_Hex_take_69 : decode cd_Hex_take 69 = .ok (.iconst 0, 1) := by decide +kernel
theorem d_Hex_take_70 : decode cd_Hex_take 70 = .ok (.istore 4, 2) := by decide +kernel
theorem d_Hex_take_72 : decode cd_Hex_take 72 = .ok (.iload 4, 2) := by decide +kernel
theorem d_Hex_take_74 : decode cd_Hex_take 74 = .ok (.bipush 52, 2) := by decide +kernel
theorem d_Hex_take_76 : decode cd_Hex_take 76 = .ok (.if_icmp .ge 42, 3) := by decide +kernel
theorem d_Hex_take_79 : decode cd_Hex_take 79 = .ok (.aload_n 0, 1) := by decide +kernel
theorem d_Hex_take_80 : decode cd_Hex_take 80 = .ok (.getfield 18, 3) := by decide +kernel
theorem d_Hex_take_83 : decode cd_Hex_take 83 = .ok (.ldc2_w 26, 3) := by decide +kernel
theorem d_Hex_take_86 : decode cd_Hex_take 86 = .ok (.land, 1) := by decide +kernel
theorem d_Hex_take_87 : decode cd_Hex_take 87 = .ok (.lconst 0, 1) := by decide +kernel
theorem d_Hex_take_88 : decode cd_Hex_take 88 = .ok (.lcmp, 1) := by decide +kernel
theorem d_Hex_take_89 : decode cd_Hex_take 89 = .ok (.ifCond .ne 29, 3) := by decide +kernel
theorem d_Hex_take_92 : decode cd_Hex_take 92 = .ok (.aload_n 0, 1) := by decide +kernel
theorem d_Hex_take_93 : decode cd_Hex_take 93 = .ok (.dup, 1) := by decide +kernel
theorem d_Hex_take_94 : decode cd_Hex_take 94 = .ok (.getfield 18, 3) := by decide +kernel
theorem d_Hex_take_97 : decode cd_Hex_take 97 = .ok (.iconst 1, 1) := by decide +kernel
theorem d_Hex_take_98 : decode cd_Hex_take 98 = .ok (.lshl, 1) := by decide +kernel
theorem d_Hex_take_99 : decode cd_Hex_take 99 = .ok (.putfield 18, 3) := by decide +kernel
theorem d_Hex_take_102 : decode cd_Hex_take 102 = .ok (.aload_n 0, 1) := by decide +kernel
theorem d_Hex_take_103 : decode cd_Hex_take 103 = .ok (.dup, 1) := by decide +kernel
theorem d_Hex_take_104 : decode cd_Hex_take 104 = .ok (.getfield 13, 3) := by decide +kernel
theorem d_Hex_take_107 : decode cd_Hex_take 107 = .ok (.iconst 1, 1) := by decide +kernel
theorem d_Hex_take_108 : decode cd_Hex_take 108 = .ok (.isub, 1) := by decide +kernel
theorem d_Hex_take_109 : decode cd_Hex_take 109 = .ok (.putfield 13, 3) := by decide +kernel
theorem d_Hex_take_112 : decode cd_Hex_take 112 = .ok (.iinc 4 1, 3) := by decide +kernel
theorem d_Hex_take_115 : decode cd_Hex_take 115 = .ok (.goto (-43), 3) := by decide +kernel
theorem d_Hex_take_118 : decode cd_Hex_take 118 = .ok (.return_, 1) := by decide +kernel
theorem m_75 : Cond.fieldLink R_Hex 9 "SpecifierDesk$Hex" "digits" "I" ∈ gw := gm (i := 213) (by decide +kernel) (by decide +kernel)
theorem m_76 : Cond.fieldLink R_Hex 13 "SpecifierDesk$Hex" "exponent" "I" ∈ gw := gm (i := 211) (by decide +kernel) (by decide +kernel)
theorem m_77 : Cond.constantLong R_Hex 16 4503599627370495 ∈ gw := gm (i := 803) (by decide +kernel) (by decide +kernel)
theorem m_78 : Cond.fieldLink R_Hex 18 "SpecifierDesk$Hex" "mantissa" "J" ∈ gw := gm (i := 210) (by decide +kernel) (by decide +kernel)
theorem m_79 : Cond.methodLink R_Hex 22 y_Hex_exponentBits ∈ gw := gm (i := 804) (by decide +kernel) (by decide +kernel)
theorem m_80 : Cond.static y_Hex_exponentBits ∈ gw := gm (i := 668) (by decide +kernel) (by decide +kernel)
theorem m_81 : Cond.initialized R_Hex ∈ gw := gm (i := 88) (by decide +kernel) (by decide +kernel)
set_option maxRecDepth 100000 in
theorem m_82 : Cond.code y_Hex_exponentBits cd_Hex_exponentBits 2 (some .int) ∈ gw := gm (i := 669) rfl rfl
theorem m_83 : Cond.constantLong R_Hex 26 4503599627370496 ∈ gw := gm (i := 805) (by decide +kernel) (by decide +kernel)
def b_Hex_take_72  (t_digits : Int32) (rec_72 : (Int32 × Int64 × Int32) → Option (Int64 × Int32 × Int32)) (z72 : Int32 × Int64 × Int32) : Option (Int64 × Int32 × Int32) :=
  (if (52 : Int32) ≤ z72.1 then some (z72.2.1, z72.2.2, t_digits) else (if (lg_cmp (z72.2.1 &&& (4503599627370496 : Int64)) (0 : Int64)) = 0 then rec_72 ((z72.1 + 1), (z72.2.1 <<< ((1 : Int32).toInt64 &&& 63)), (z72.2.2 - (1 : Int32))) else some (z72.2.1, z72.2.2, t_digits)))
def f_Hex_take (K : Nat) (a1 : Int64) : Option (Int64 × Int32 × Int32) :=
  ((f_Hex_exponentBits a1).bind fun u_21 => (if u_21 = 0 then (if (lg_cmp (a1 &&& (4503599627370495 : Int64)) (0 : Int64)) = 0 then some ((a1 &&& (4503599627370495 : Int64)), (0 : Int32), (13 : Int32)) else lp_ (b_Hex_take_72  (13 : Int32)) K ((0 : Int32), (a1 &&& (4503599627370495 : Int64)), (-1022 : Int32))) else some (((a1 &&& (4503599627370495 : Int64)) ||| (4503599627370496 : Int64)), (u_21 - (1023 : Int32)), (13 : Int32))))
abbrev w_Hex_take (G : Gt) (qt : Nat) (t_mantissa : Int64) (t_exponent : Int32) (t_digits : Int32) : va_W := [(qt, .inr (3, [.long t_mantissa, .int t_exponent, .int t_digits]))]
set_option maxHeartbeats 4000000 in
set_option maxRecDepth 100000 in
theorem c_Hex_take (l : Launch) (G : Gt) (K : Nat) (qt : Nat) (t_mantissa : Int64) (t_exponent : Int32) (t_digits : Int32) (a1 : Int64) (sz : Nat) (res : Int64 × Int32 × Int32)   (hf : f_Hex_take K a1 = some res) : Met l y_Hex_take (.code y_Hex_take cd_Hex_take 5 none :: gw) { frames := 1, cells := 0, slots := 0, locals := 40 } (PC G ([.ref qt, .long a1] : List Value) sz (w_Hex_take G qt t_mantissa t_exponent t_digits)) (QV G (va_A (w_Hex_take G qt t_mantissa t_exponent t_digits) sz) (w_Hex_take G qt res.1 res.2.1 res.2.2)) 0 0 (va_A (w_Hex_take G qt t_mantissa t_exponent t_digits) sz) := by
  refine Met.ofW (cc := cd_Hex_take) (maxL := 5) (ret := none) (by decide) rfl ?_
  intro p e s m args below meth c s₁ B hml hv
  obtain ⟨rfl, hsz, hP, hE, hD0⟩ := hv
  have hx := B.exec
  have hb := B.bytes
  have hr := B.returns
  have hts := atoms_spec (ws := (.code y_Hex_take cd_Hex_take 5 none :: gw)) B.pre
  have hg : ∀ w ∈ gw, w.before _ s = true := fun w h => hts w (List.mem_cons_of_mem _ h)
  have hown : s.vm.findClass R_Hex = some m.cls := findClass_of_methodNamed B.named
  have hlocks := B.notSynchronized
  subst hsz
  have hK := hE.K
  have hD := hD0.self (sz := s.heap.size)
  have hAb := hE.ab hD0
  obtain ⟨Q, hQ⟩ : ∃ Q, MQ below (QV G (va_A (w_Hex_take G qt t_mantissa t_exponent t_digits) s.heap.size) (w_Hex_take G qt res.1 res.2.1 res.2.2)) ([.ref qt, .long a1] : List Value).toArray s 0 0 (va_A (w_Hex_take G qt t_mantissa t_exponent t_digits) s.heap.size) = Q := ⟨_, rfl⟩
  show W p l e { frames := 1, cells := 0, slots := 0, locals := 40 } s m ([.ref qt, .long a1] : List Value).toArray below meth c s.heap [] 0 0 (MQ below (QV G (va_A (w_Hex_take G qt t_mantissa t_exponent t_digits) s.heap.size) (w_Hex_take G qt res.1 res.2.1 res.2.2)) ([.ref qt, .long a1] : List Value).toArray s 0 0 (va_A (w_Hex_take G qt t_mantissa t_exponent t_digits) s.heap.size)) _
  rw [hQ]
  have hA : ∀ q : Nat, s.heap.size ≤ q → va_A (w_Hex_take G qt t_mantissa t_exponent t_digits) s.heap.size q := fun q h => Or.inr h
  obtain ⟨A, hAe⟩ : ∃ A, va_A (w_Hex_take G qt t_mantissa t_exponent t_digits) s.heap.size = A := ⟨_, rfl⟩
  rw [hAe] at hA hD hAb hQ
  have hS : va_S A s.heap s.heap [] := va_S.rf
  have hl := lv_entry (([.ref qt, .long a1] : List Value)) (n := 5) (Nat.le_of_ble_eq_true rfl)
  rw [lg_entry_eq]
  generalize (lg_sl (([.ref qt, .long a1] : List Value)) ++ List.replicate (5 - (lg_sl (([.ref qt, .long a1] : List Value))).length) Slot.unset).toArray = ls at hl ⊢
  have hl : lv_has ls 5 [(0, .ref qt), (1, .long a1)] := hl
  have W_72 : ∀ (t_digits : Int32)  (n_72 : Nat) (z72 : Int32 × Int64 × Int32) , lp_ (b_Hex_take_72  t_digits) n_72 z72 = some res → ∀ (H : Heap) (locs : List Loc) (ls : Array Slot), va_P (gD G) vwCl (w_Hex_take G qt z72.2.1 z72.2.2 t_digits) H → va_D A (w_Hex_take G qt z72.2.1 z72.2.2 t_digits) → va_S A s.heap H locs → lv_has ls 5 [(0, .ref qt), (4, .int z72.1)] → W p l e { frames := 1, cells := 0, slots := 0, locals := 40 } s m ([.ref qt, .long a1] : List Value).toArray below meth c H locs 0 0 Q (F0 m 72 ls []) := by
    intro t_digits n_72
    induction n_72 with
    | zero =>
      intro z72  hf
      cases hf
    | succ n_72 ih_72 =>
      intro z72  hf H locs ls hP hD hS hl
      have hf : b_Hex_take_72  t_digits (lp_ (b_Hex_take_72  t_digits) n_72) z72 = some res := hf
      generalize lp_ (b_Hex_take_72  t_digits) n_72 = rec_72 at hf ih_72
      unfold b_Hex_take_72 at hf
      refine lv_iload hx hb d_Hex_take_72 (lv_at hl 1 rfl) ?_
      refine lv_bipush (v := 52) hx hb d_Hex_take_74 (by decide) ?_
      refine lv_icmp_ge (tgt := 118) hx hb d_Hex_take_76 (by decide) (fun c_76 => ?_) (fun c_76 => ?_)
      · have hf := ip_ c_76 hf
        obtain rfl := Option.some.inj hf
        rw [← hQ]
        exact W.vret hx hb hr (fun t9 ht hW => ⟨⟨(), rfl, trivial, ⟨by rw [ht]; exact hP, hD⟩⟩, hS.F ht⟩) hS.2.2 d_Hex_take_118
      · have hf := in_ c_76 hf
        refine lv_aload_n hx hb d_Hex_take_79 rfl (lv_at hl 0 rfl) ?_
        refine va_get (D := gD G) (ci := 3) (v := .long z72.2.1) (C := R_Hex) (T := F_Hex) (N := 3) hx hb hg in_Hex hown hK hP 0 rfl rfl 0 (by decide) (hg _ m_78) (fun _ h9 => h9) rfl d_Hex_take_80 ?_
        refine lv_ldc2 (v := 4503599627370496) hx hb hown (hg _ m_83) d_Hex_take_83 ?_
        refine lv_land hx hb d_Hex_take_86 ?_
        refine lv_lconst (v := 0) hx hb d_Hex_take_87 (by decide) ?_
        refine W.lcmp hx hb d_Hex_take_88 ?_
        refine lv_if_ne (tgt := 118) hx hb d_Hex_take_89 (by decide) (fun c_89 => ?_) (fun c_89 => ?_)
        · have hf := in_ c_89 hf
          obtain rfl := Option.some.inj hf
          rw [← hQ]
          exact W.vret hx hb hr (fun t9 ht hW => ⟨⟨(), rfl, trivial, ⟨by rw [ht]; exact hP, hD⟩⟩, hS.F ht⟩) hS.2.2 d_Hex_take_118
        · have hf := ip_ c_89 hf
          refine lv_aload_n hx hb d_Hex_take_92 rfl (lv_at hl 0 rfl) ?_
          refine lv_dup hx hb d_Hex_take_93 rfl ?_
          refine va_get (D := gD G) (ci := 3) (v := .long z72.2.1) (C := R_Hex) (T := F_Hex) (N := 3) hx hb hg in_Hex hown hK hP 0 rfl rfl 0 (by decide) (hg _ m_78) (fun _ h9 => h9) rfl d_Hex_take_94 ?_
          refine lv_iconst (v := 1) hx hb d_Hex_take_97 (by decide) ?_
          refine lv_lshl (v := (z72.2.1 <<< ((1 : Int32).toInt64 &&& 63))) hx hb d_Hex_take_98 rfl ?_
          refine va_put (D := gD G) (ci := 3) (v := .long (z72.2.1 <<< ((1 : Int32).toInt64 &&& 63))) (ty := .long) (C := R_Hex) (T := F_Hex) (N := 3) hx hb hg in_Hex t_Hex to_Hex no_Hex hown hK hP hD hS 0 rfl rfl 0 (by decide) (hg _ m_78) (fun _ h9 => h9) rfl (by decide +kernel) rfl rfl (Nat.le_of_ble_eq_true rfl) d_Hex_take_99 (fun H locs hP hD hS => ?_)
          have hP : va_P (gD G) vwCl (w_Hex_take G qt (z72.2.1 <<< ((1 : Int32).toInt64 &&& 63)) z72.2.2 t_digits) H := hP
          have hD : va_D A (w_Hex_take G qt (z72.2.1 <<< ((1 : Int32).toInt64 &&& 63)) z72.2.2 t_digits) := hD
          refine lv_aload_n hx hb d_Hex_take_102 rfl (lv_at hl 0 rfl) ?_
          refine lv_dup hx hb d_Hex_take_103 rfl ?_
          refine va_get (D := gD G) (ci := 3) (v := .int z72.2.2) (C := R_Hex) (T := F_Hex) (N := 3) hx hb hg in_Hex hown hK hP 0 rfl rfl 1 (by decide) (hg _ m_76) (fun _ h9 => h9) rfl d_Hex_take_104 ?_
          refine lv_iconst (v := 1) hx hb d_Hex_take_107 (by decide) ?_
          refine lv_isub hx hb d_Hex_take_108 ?_
          refine va_put (D := gD G) (ci := 3) (v := .int (z72.2.2 - (1 : Int32))) (ty := .int) (C := R_Hex) (T := F_Hex) (N := 3) hx hb hg in_Hex t_Hex to_Hex no_Hex hown hK hP hD hS 0 rfl rfl 1 (by decide) (hg _ m_76) (fun _ h9 => h9) rfl (by decide +kernel) rfl rfl (Nat.le_of_ble_eq_true rfl) d_Hex_take_109 (fun H locs hP hD hS => ?_)
          have hP : va_P (gD G) vwCl (w_Hex_take G qt (z72.2.1 <<< ((1 : Int32).toInt64 &&& 63)) (z72.2.2 - (1 : Int32)) t_digits) H := hP
          have hD : va_D A (w_Hex_take G qt (z72.2.1 <<< ((1 : Int32).toInt64 &&& 63)) (z72.2.2 - (1 : Int32)) t_digits) := hD
          refine lv_iinc (v := (z72.1 + 1)) (lv' := [(4, .int (z72.1 + 1)), (0, .ref qt)]) hx hb d_Hex_take_112 hl (k := 1) rfl rfl (by decide) rfl (fun ls hl => ?_)
          refine lv_goto (tgt := 72) hx hb d_Hex_take_115 (by decide) ?_
          exact ih_72 ((z72.1 + 1), (z72.2.1 <<< ((1 : Int32).toInt64 &&& 63)), (z72.2.2 - (1 : Int32)))  hf _ _ _ hP hD hS (lv_sub hl [1, 0] rfl)
  unfold f_Hex_take at hf
  refine lv_aload_n hx hb d_Hex_take_0 rfl (lv_at hl 0 rfl) ?_
  refine lv_bipush (v := 13) hx hb d_Hex_take_1 (by decide) ?_
  refine va_put (D := gD G) (ci := 3) (v := .int (13 : Int32)) (ty := .int) (C := R_Hex) (T := F_Hex) (N := 3) hx hb hg in_Hex t_Hex to_Hex no_Hex hown hK hP hD hS 0 rfl rfl 2 (by decide) (hg _ m_75) (fun _ h9 => h9) rfl (by decide +kernel) rfl rfl (Nat.le_of_ble_eq_true rfl) d_Hex_take_3 (fun H locs hP hD hS => ?_)
  have hP : va_P (gD G) vwCl (w_Hex_take G qt t_mantissa t_exponent (13 : Int32)) H := hP
  have hD : va_D A (w_Hex_take G qt t_mantissa t_exponent (13 : Int32)) := hD
  refine lv_aload_n hx hb d_Hex_take_6 rfl (lv_at hl 0 rfl) ?_
  refine lv_iconst (v := 0) hx hb d_Hex_take_7 (by decide) ?_
  refine va_put (D := gD G) (ci := 3) (v := .int (0 : Int32)) (ty := .int) (C := R_Hex) (T := F_Hex) (N := 3) hx hb hg in_Hex t_Hex to_Hex no_Hex hown hK hP hD hS 0 rfl rfl 1 (by decide) (hg _ m_76) (fun _ h9 => h9) rfl (by decide +kernel) rfl rfl (Nat.le_of_ble_eq_true rfl) d_Hex_take_8 (fun H locs hP hD hS => ?_)
  have hP : va_P (gD G) vwCl (w_Hex_take G qt t_mantissa (0 : Int32) (13 : Int32)) H := hP
  have hD : va_D A (w_Hex_take G qt t_mantissa (0 : Int32) (13 : Int32)) := hD
  refine lv_aload_n hx hb d_Hex_take_11 rfl (lv_at hl 0 rfl) ?_
  refine lv_lload_n hx hb d_Hex_take_12 rfl (lv_at hl 1 rfl) ?_
  refine lv_ldc2 (v := 4503599627370495) hx hb hown (hg _ m_77) d_Hex_take_13 ?_
  refine lv_land hx hb d_Hex_take_16 ?_
  refine va_put (D := gD G) (ci := 3) (v := .long (a1 &&& (4503599627370495 : Int64))) (ty := .long) (C := R_Hex) (T := F_Hex) (N := 3) hx hb hg in_Hex t_Hex to_Hex no_Hex hown hK hP hD hS 0 rfl rfl 0 (by decide) (hg _ m_78) (fun _ h9 => h9) rfl (by decide +kernel) rfl rfl (Nat.le_of_ble_eq_true rfl) d_Hex_take_17 (fun H locs hP hD hS => ?_)
  have hP : va_P (gD G) vwCl (w_Hex_take G qt (a1 &&& (4503599627370495 : Int64)) (0 : Int32) (13 : Int32)) H := hP
  have hD : va_D A (w_Hex_take G qt (a1 &&& (4503599627370495 : Int64)) (0 : Int32) (13 : Int32)) := hD
  refine lv_lload_n hx hb d_Hex_take_20 rfl (lv_at hl 1 rfl) ?_
  obtain ⟨u_21, hu_21, hf⟩ := bd_ hf
  refine CALLi (va_runS (As := [.long a1]) (rest := []) ⟨hx, hb, hml, hown, hg⟩ (c_Hex_exponentBits l G K a1 _ u_21  hu_21) (va_cwS 1 hg (gS m_79 m_80 m_81 m_82) rfl rfl rfl (by decide +kernel) ⟨Nat.le_of_ble_eq_true rfl, Nat.le_of_ble_eq_true rfl⟩) ⟨PC_b, PC_p hE hS hAb (hP.sub [] rfl) (hD.sub [] (by decide) rfl)⟩ rfl rfl hl.1 rfl (lv_room (Nat.le_of_ble_eq_true rfl)) d_Hex_take_21 ⟨Nat.zero_le _, Nat.zero_le _⟩) hP hD hS hA [] rfl rfl rfl (fun H locs hP hD hS => ?_)
  have hP : va_P (gD G) vwCl (w_Hex_take G qt (a1 &&& (4503599627370495 : Int64)) (0 : Int32) (13 : Int32)) H := hP
  have hD : va_D A (w_Hex_take G qt (a1 &&& (4503599627370495 : Int64)) (0 : Int32) (13 : Int32)) := hD
  refine lv_istore_n (lv' := [(3, .int u_21), (0, .ref qt), (1, .long a1)]) hx hb d_Hex_take_24 rfl hl (by decide) rfl (fun ls hl => ?_)
  refine lv_iload_n hx hb d_Hex_take_25 rfl (lv_at hl 0 rfl) ?_
  refine lv_if_eq (tgt := 53) hx hb d_Hex_take_26 (by decide) (fun c_26 => ?_) (fun c_26 => ?_)
  · have hf := ip_ c_26 hf
    refine lv_aload_n hx hb d_Hex_take_53 rfl (lv_at hl 1 rfl) ?_
    refine va_get (D := gD G) (ci := 3) (v := .long (a1 &&& (4503599627370495 : Int64))) (C := R_Hex) (T := F_Hex) (N := 3) hx hb hg in_Hex hown hK hP 0 rfl rfl 0 (by decide) (hg _ m_78) (fun _ h9 => h9) rfl d_Hex_take_54 ?_
    refine lv_lconst (v := 0) hx hb d_Hex_take_57 (by decide) ?_
    refine W.lcmp hx hb d_Hex_take_58 ?_
    refine lv_if_eq (tgt := 118) hx hb d_Hex_take_59 (by decide) (fun c_59 => ?_) (fun c_59 => ?_)
    · have hf := ip_ c_59 hf
      obtain rfl := Option.some.inj hf
      rw [← hQ]
      exact W.vret hx hb hr (fun t9 ht hW => ⟨⟨(), rfl, trivial, ⟨by rw [ht]; exact hP, hD⟩⟩, hS.F ht⟩) hS.2.2 d_Hex_take_118
    · have hf := in_ c_59 hf
      refine lv_aload_n hx hb d_Hex_take_62 rfl (lv_at hl 1 rfl) ?_
      refine lv_sipush (v := -1022) hx hb d_Hex_take_63 (by decide) ?_
      refine va_put (D := gD G) (ci := 3) (v := .int (-1022 : Int32)) (ty := .int) (C := R_Hex) (T := F_Hex) (N := 3) hx hb hg in_Hex t_Hex to_Hex no_Hex hown hK hP hD hS 0 rfl rfl 1 (by decide) (hg _ m_76) (fun _ h9 => h9) rfl (by decide +kernel) rfl rfl (Nat.le_of_ble_eq_true rfl) d_Hex_take_66 (fun H locs hP hD hS => ?_)
      have hP : va_P (gD G) vwCl (w_Hex_take G qt (a1 &&& (4503599627370495 : Int64)) (-1022 : Int32) (13 : Int32)) H := hP
      have hD : va_D A (w_Hex_take G qt (a1 &&& (4503599627370495 : Int64)) (-1022 : Int32) (13 : Int32)) := hD
      refine lv_iconst (v := 0) hx hb d_Hex_take_69 (by decide) ?_
      refine lv_istore (lv' := [(4, .int (0 : Int32)), (3, .int u_21), (0, .ref qt), (1, .long a1)]) hx hb d_Hex_take_70 hl (by decide) rfl (fun ls hl => ?_)
      exact W_72 (13 : Int32)  K ((0 : Int32), (a1 &&& (4503599627370495 : Int64)), (-1022 : Int32))  hf _ _ _ hP hD hS (lv_sub hl [2, 0] rfl)
  · have hf := in_ c_26 hf
    refine lv_aload_n hx hb d_Hex_take_29 rfl (lv_at hl 1 rfl) ?_
    refine lv_dup hx hb d_Hex_take_30 rfl ?_
    refine va_get (D := gD G) (ci := 3) (v := .long (a1 &&& (4503599627370495 : Int64))) (C := R_Hex) (T := F_Hex) (N := 3) hx hb hg in_Hex hown hK hP 0 rfl rfl 0 (by decide) (hg _ m_78) (fun _ h9 => h9) rfl d_Hex_take_31 ?_
    refine lv_ldc2 (v := 4503599627370496) hx hb hown (hg _ m_83) d_Hex_take_34 ?_
    refine lv_lor hx hb d_Hex_take_37 ?_
    refine va_put (D := gD G) (ci := 3) (v := .long ((a1 &&& (4503599627370495 : Int64)) ||| (4503599627370496 : Int64))) (ty := .long) (C := R_Hex) (T := F_Hex) (N := 3) hx hb hg in_Hex t_Hex to_Hex no_Hex hown hK hP hD hS 0 rfl rfl 0 (by decide) (hg _ m_78) (fun _ h9 => h9) rfl (by decide +kernel) rfl rfl (Nat.le_of_ble_eq_true rfl) d_Hex_take_38 (fun H locs hP hD hS => ?_)
    have hP : va_P (gD G) vwCl (w_Hex_take G qt ((a1 &&& (4503599627370495 : Int64)) ||| (4503599627370496 : Int64)) (0 : Int32) (13 : Int32)) H := hP
    have hD : va_D A (w_Hex_take G qt ((a1 &&& (4503599627370495 : Int64)) ||| (4503599627370496 : Int64)) (0 : Int32) (13 : Int32)) := hD
    refine lv_aload_n hx hb d_Hex_take_41 rfl (lv_at hl 1 rfl) ?_
    refine lv_iload_n hx hb d_Hex_take_42 rfl (lv_at hl 0 rfl) ?_
    refine lv_sipush (v := 1023) hx hb d_Hex_take_43 (by decide) ?_
    refine lv_isub hx hb d_Hex_take_46 ?_
    refine va_put (D := gD G) (ci := 3) (v := .int (u_21 - (1023 : Int32))) (ty := .int) (C := R_Hex) (T := F_Hex) (N := 3) hx hb hg in_Hex t_Hex to_Hex no_Hex hown hK hP hD hS 0 rfl rfl 1 (by decide) (hg _ m_76) (fun _ h9 => h9) rfl (by decide +kernel) rfl rfl (Nat.le_of_ble_eq_true rfl) d_Hex_take_47 (fun H locs hP hD hS => ?_)
    have hP : va_P (gD G) vwCl (w_Hex_take G qt ((a1 &&& (4503599627370495 : Int64)) ||| (4503599627370496 : Int64)) (u_21 - (1023 : Int32)) (13 : Int32)) H := hP
    have hD : va_D A (w_Hex_take G qt ((a1 &&& (4503599627370495 : Int64)) ||| (4503599627370496 : Int64)) (u_21 - (1023 : Int32)) (13 : Int32)) := hD
    refine lv_goto (tgt := 118) hx hb d_Hex_take_50 (by decide) ?_
    obtain rfl := Option.some.inj hf
    rw [← hQ]
    exact W.vret hx hb hr (fun t9 ht hW => ⟨⟨(), rfl, trivial, ⟨by rw [ht]; exact hP, hD⟩⟩, hS.F ht⟩) hS.2.2 d_Hex_take_118
theorem d_Hex_roundTo_0 : decode cd_Hex_roundTo 0 = .ok (.iload_n 1, 1) := by decide +kernel
theorem d_Hex_roundTo_1 : decode cd_Hex_roundTo 1 = .ok (.iconst 1, 1) := by decide +kernel
theorem d_Hex_roundTo_2 : decode cd_Hex_roundTo 2 = .ok (.if_icmp .lt 11, 3) := by decide +kernel
theorem d_Hex_roundTo_5 : decode cd_Hex_roundTo 5 = .ok (.iload_n 1, 1) := by decide +kernel
theorem d_Hex_roundTo_6 : decode cd_Hex_roundTo 6 = .ok (.aload_n 0, 1) := by decide +kernel
theorem d_Hex_roundTo_7 : decode cd_Hex_roundTo 7 = .ok (.getfield 9, 3) := by decide +kernel
theorem d_Hex_roundTo_10 : decode cd_Hex_roundTo 10 = .ok (.if_icmp .lt 4, 3) := by decide +kernel
theorem d_Hex_roundTo_13 : decode cd_Hex_roundTo 13 = .ok (.return_, 1) := by decide +kernel
theorem d_Hex_roundTo_14 : decode cd_Hex_roundTo 14 = .ok (.iconst 4, 1) := by decide +kernel
theorem d_Hex_roundTo_15 : decode cd_Hex_roundTo 15 = .ok (.aload_n 0, 1) := by decide +kernel
theorem d_Hex_roundTo_16 : decode cd_Hex_roundTo 16 = .ok (.getfield 9, 3) := by decide +kernel
theorem d_Hex_roundTo_19 : decode cd_Hex_roundTo 19 = .ok (.iload_n 1, 1) := by decide +kernel
theorem d_Hex_roundTo_20 : decode cd_Hex_roundTo 20 = .ok (.isub, 1) := by decide +kernel
theorem d_Hex_roundTo_21 : decode cd_Hex_roundTo 21 = .ok (.imul, 1) := by decide +kernel
theorem d_Hex_roundTo_22 : decode cd_Hex_roundTo 22 = .ok (.istore_n 2, 1) := by decide +kernel
theorem d_Hex_roundTo_23 : decode cd_Hex_roundTo 23 = .ok (.lconst 1, 1) := by decide +kernel
theorem d_Hex_roundTo_24 : decode cd_Hex_roundTo 24 = .ok (.iload_n 2, 1) := by decide +kernel
theorem d_Hex_roundTo_25 : decode cd_Hex_roundTo 25 = .ok (.iconst 1, 1) := by decide +kernel
theorem d_Hex_roundTo_26 : decode cd_Hex_roundTo 26 = .ok (.isub, 1) := by decide +kernel
theorem d_Hex_roundTo_27 : decode cd_Hex_roundTo 27 = .ok (.lshl, 1) := by decide +kernel
theorem d_Hex_roundTo_28 : decode cd_Hex_roundTo 28 = .ok (.lstore_n 3, 1) := by decide +kernel
theorem d_Hex_roundTo_29 : decode cd_Hex_roundTo 29 = .ok (.aload_n 0, 1) := by decide +kernel
theorem d_Hex_roundTo_30 : decode cd_Hex_roundTo 30 = .ok (.getfield 18, 3) := by decide +kernel
theorem d_Hex_roundTo_33 : decode cd_Hex_roundTo 33 = .ok (.lconst 1, 1) := by decide +kernel
theorem d_Hex_roundTo_34 : decode cd_Hex_roundTo 34 = .ok (.iload_n 2, 1) := by decide +kernel
theorem d_Hex_roundTo_35 : decode cd_Hex_roundTo 35 = .ok (.lshl, 1) := by decide +kernel
theorem d_Hex_roundTo_36 : decode cd_Hex_roundTo 36 = .ok (.lconst 1, 1) := by decide +kernel
theorem d_Hex_roundTo_37 : decode cd_Hex_roundTo 37 = .ok (.lsub, 1) := by decide +kernel
theorem d_Hex_roundTo_38 : decode cd_Hex_roundTo 38 = .ok (.land, 1) := by decide +kernel
theorem d_Hex_roundTo_39 : decode cd_Hex_roundTo 39 = .ok (.lstore 5, 2) := by decide +kernel
theorem d_Hex_roundTo_41 : decode cd_Hex_roundTo 41 = .ok (.aload_n 0, 1) := by decide +kernel
theorem d_Hex_roundTo_42 : decode cd_Hex_roundTo 42 = .ok (.dup, 1) := by decide +kernel
theorem d_Hex_roundTo_43 : decode cd_Hex_roundTo 43 = .ok (.getfield 18, 3) := by decide +kernel
theorem d_Hex_roundTo_46 : decode cd_Hex_roundTo 46 = .ok (.iload_n 2, 1) := by decide +kernel
theorem d_Hex_roundTo_47 : decode cd_Hex_roundTo 47 = .ok (.lushr, 1) := by decide +kernel
theorem d_Hex_roundTo_48 : decode cd_Hex_roundTo 48 = .ok (.putfield 18, 3) := by decide +kernel
theorem d_Hex_roundTo_51 : decode cd_Hex_roundTo 51 = .ok (.lload 5, 2) := by decide +kernel
theorem d_Hex_roundTo_53 : decode cd_Hex_roundTo 53 = .ok (.lload_n 3, 1) := by decide +kernel
theorem d_Hex_roundTo_54 : decode cd_Hex_roundTo 54 = .ok (.lcmp, 1) := by decide +kernel
theorem d_Hex_roundTo_55 : decode cd_Hex_roundTo 55 = .ok (.ifCond .gt 21, 3) := by decide +kernel
theorem d_Hex_roundTo_58 : decode cd_Hex_roundTo 58 = .ok (.lload 5, 2) := by decide +kernel
theorem d_Hex_roundTo_60 : decode cd_Hex_roundTo 60 = .ok (.lload_n 3, 1) := by decide +kernel
theorem d_Hex_roundTo_61 : decode cd_Hex_roundTo 61 = .ok (.lcmp, 1) := by decide +kernel
theorem d_Hex_roundTo_62 : decode cd_Hex_roundTo 62 = .ok (.ifCond .ne 24, 3) := by decide +kernel
theorem d_Hex_roundTo_65 : decode cd_Hex_roundTo 65 = .ok (.aload_n 0, 1) := by decide +kernel
theorem d_Hex_roundTo_66 : decode cd_Hex_roundTo 66 = .ok (.getfield 18, 3) := by decide +kernel
theorem d_Hex_roundTo_69 : decode cd_Hex_roundTo 69 = .ok (.lconst 1, 1) := by decide +kernel
theorem d_Hex_roundTo_70 : decode cd_Hex_roundTo 70 = .ok (.land, 1) := by decide +kernel
theorem d_Hex_roundTo_71 : decode cd_Hex_roundTo 71 = .ok (.lconst 1, 1) := by decide +kernel
theorem d_Hex_roundTo_72 : decode cd_Hex_roundTo 72 = .ok (.lcmp, 1) := by decide +kernel
theorem d_Hex_roundTo_73 : decode cd_Hex_roundTo 73 = .ok (.ifCond .ne 13, 3) := by decide +kernel
theorem d_Hex_roundTo_76 : decode cd_Hex_roundTo 76 = .ok (.aload_n 0, 1) := by decide +kernel
theorem d_Hex_roundTo_77 : decode cd_Hex_roundTo 77 = .ok (.dup, 1) := by decide +kernel
theorem d_Hex_roundTo_78 : decode cd_Hex_roundTo 78 = .ok (.getfield 18, 3) := by decide +kernel
theorem d_Hex_roundTo_81 : decode cd_Hex_roundTo 81 = .ok (.lconst 1, 1) := by decide +kernel
theorem d_Hex_roundTo_82 : decode cd_Hex_roundTo 82 = .ok (.ladd, 1) := by decide +kernel
theorem d_Hex_roundTo_83 : decode cd_Hex_roundTo 83 = .ok (.putfield 18, 3) := by decide +kernel
theorem d_Hex_roundTo_86 : decode cd_Hex_roundTo 86 = .ok (.aload_n 0, 1) := by decide +kernel
theorem d_Hex_roundTo_87 : decode cd_Hex_roundTo 87 = .ok (.iload_n 1, 1) := by decide +kernel
theorem d_Hex_roundTo_88 : decode cd_Hex_roundTo 88 = .ok (.putfield 9, 3) := by decide +kernel
theorem d_Hex_roundTo_91 : decode cd_Hex_roundTo 91 = .ok (.aload_n 0, 1) := by decide +kernel
theorem d_Hex_roundTo_92 : decode cd_Hex_roundTo 92 = .ok (.getfield 18, 3) := by decide +kernel
theorem d_Hex_roundTo_95 : decode cd_Hex_roundTo 95 = .ok (.iconst 4, 1) := by decide +kernel
theorem d_Hex_roundTo_96 : decode cd_Hex_roundTo 96 = .ok (.aload_n 0, 1) := by decide +kernel
theorem d_Hex_roundTo_97 : decode cd_Hex_roundTo 97 = .ok (.getfield 9, 3) := by decide +kernel
theorem d_Hex_roundTo_100 : decode cd_Hex_roundTo 100 = .ok (.imul, 1) := by decide +kernel
theorem d_Hex_roundTo_101 : decode cd_Hex_roundTo 101 = .ok (.lushr, 1) := by decide +kernel
theorem d_Hex_roundTo_102 : decode cd_Hex_roundTo 102 = .ok (.ldc2_w 28, 3) := by decide +kernel
theorem d_Hex_roundTo_105 : decode cd_Hex_roundTo 105 = .ok (.lcmp, 1) := by decide +kernel
theorem d_Hex_roundTo_106 : decode cd_Hex_roundTo 106 = .ok (.ifCond .ne 23, 3) := by decide +kernel
theorem d_Hex_roundTo_109 : decode cd_Hex_roundTo 109 = .ok (.aload_n 0, 1) := by decide +kernel
theorem d_Hex_roundTo_110 : decode cd_Hex_roundTo 110 = .ok (.dup, 1) := by decide +kernel
theorem d_Hex_roundTo_111 : decode cd_Hex_roundTo 111 = .ok (.getfield 18, 3) := by decide +kernel
theorem d_Hex_roundTo_114 : decode cd_Hex_roundTo 114 = .ok (.iconst 1, 1) := by decide +kernel
theorem d_Hex_roundTo_115 : decode cd_Hex_roundTo 115 = .ok (.lushr, 1) := by decide +kernel
theorem d_Hex_roundTo_116 : decode cd_Hex_roundTo 116 = .ok (.putfield 18, 3) := by decide +kernel
theorem d_Hex_roundTo_119 : decode cd_Hex_roundTo 119 = .ok (.aload_n 0, 1) := by decide +kernel
theorem d_Hex_roundTo_120 : decode cd_Hex_roundTo 120 = .ok (.dup, 1) := by decide +kernel
theorem d_Hex_roundTo_121 : decode cd_Hex_roundTo 121 = .ok (.getfield 13, 3) := by decide +kernel
theorem d_Hex_roundTo_124 : decode cd_Hex_roundTo 124 = .ok (.iconst 1, 1) := by decide +kernel
theorem d_Hex_roundTo_125 : decode cd_Hex_roundTo 125 = .ok (.iadd, 1) := by decide +kernel
theorem d_Hex_roundTo_126 : decode cd_Hex_roundTo 126 = .ok (.putfield 13, 3) := by decide +kernel
theorem d_Hex_roundTo_129 : decode cd_Hex_roundTo 129 = .ok (.return_, 1) := by decide +kernel
theorem m_84 : Cond.constantLong R_Hex 28 2 ∈ gw := gm (i := 815) (by decide +kernel) (by decide +kernel)
def k_Hex_roundTo_86 (a1 : Int32) (t_mantissa : Int64) (t_exponent : Int32) (t_digits : Int32) : Option (Int64 × Int32 × Int32) :=
  (if (lg_cmp ((t_mantissa.toUInt64 >>> (((4 : Int32) * a1).toInt64.toUInt64 &&& Int64.toUInt64 63)).toInt64) (2 : Int64)) = 0 then some ((t_mantissa.toUInt64 >>> ((1 : Int32).toInt64.toUInt64 &&& Int64.toUInt64 63)).toInt64, (t_exponent + (1 : Int32)), a1) else some (t_mantissa, t_exponent, a1))
def k_Hex_roundTo_76 (a1 : Int32) (t_mantissa : Int64) (t_exponent : Int32) (t_digits : Int32) : Option (Int64 × Int32 × Int32) :=
  k_Hex_roundTo_86 a1 (t_mantissa + (1 : Int64)) t_exponent t_digits
def f_Hex_roundTo (t_mantissa : Int64) (t_exponent : Int32) (t_digits : Int32) (a1 : Int32) : Option (Int64 × Int32 × Int32) :=
  (if a1 < (1 : Int32) then some (t_mantissa, t_exponent, t_digits) else (if a1 < t_digits then (if 0 < (lg_cmp (t_mantissa &&& (((1 : Int64) <<< (((4 : Int32) * (t_digits - a1)).toInt64 &&& 63)) - (1 : Int64))) ((1 : Int64) <<< ((((4 : Int32) * (t_digits - a1)) - (1 : Int32)).toInt64 &&& 63))) then k_Hex_roundTo_76 a1 ((t_mantissa.toUInt64 >>> (((4 : Int32) * (t_digits - a1)).toInt64.toUInt64 &&& Int64.toUInt64 63)).toInt64) t_exponent t_digits else (if (lg_cmp (t_mantissa &&& (((1 : Int64) <<< (((4 : Int32) * (t_digits - a1)).toInt64 &&& 63)) - (1 : Int64))) ((1 : Int64) <<< ((((4 : Int32) * (t_digits - a1)) - (1 : Int32)).toInt64 &&& 63))) = 0 then (if (lg_cmp ((t_mantissa.toUInt64 >>> (((4 : Int32) * (t_digits - a1)).toInt64.toUInt64 &&& Int64.toUInt64 63)).toInt64 &&& (1 : Int64)) (1 : Int64)) = 0 then k_Hex_roundTo_76 a1 ((t_mantissa.toUInt64 >>> (((4 : Int32) * (t_digits - a1)).toInt64.toUInt64 &&& Int64.toUInt64 63)).toInt64) t_exponent t_digits else k_Hex_roundTo_86 a1 ((t_mantissa.toUInt64 >>> (((4 : Int32) * (t_digits - a1)).toInt64.toUInt64 &&& Int64.toUInt64 63)).toInt64) t_exponent t_digits) else k_Hex_roundTo_86 a1 ((t_mantissa.toUInt64 >>> (((4 : Int32) * (t_digits - a1)).toInt64.toUInt64 &&& Int64.toUInt64 63)).toInt64) t_exponent t_digits)) else some (t_mantissa, t_exponent, t_digits)))
set_option maxHeartbeats 4000000 in
set_option maxRecDepth 100000 in
theorem c_Hex_roundTo (l : Launch) (G : Gt) (K : Nat) (qt : Nat) (t_mantissa : Int64) (t_exponent : Int32) (t_digits : Int32) (a1 : Int32) (sz : Nat) (res : Int64 × Int32 × Int32)   (hf : f_Hex_roundTo t_mantissa t_exponent t_digits a1 = some res) : Met l y_Hex_roundTo (.code y_Hex_roundTo cd_Hex_roundTo 7 none :: gw) { frames := 0, cells := 0, slots := 0, locals := 0 } (PC G ([.ref qt, .int a1] : List Value) sz (w_Hex_take G qt t_mantissa t_exponent t_digits)) (QV G (va_A (w_Hex_take G qt t_mantissa t_exponent t_digits) sz) (w_Hex_take G qt res.1 res.2.1 res.2.2)) 0 0 (va_A (w_Hex_take G qt t_mantissa t_exponent t_digits) sz) := by
  refine Met.ofW (cc := cd_Hex_roundTo) (maxL := 7) (ret := none) (by decide) rfl ?_
  intro p e s m args below meth c s₁ B hml hv
  obtain ⟨rfl, hsz, hP, hE, hD0⟩ := hv
  have hx := B.exec
  have hb := B.bytes
  have hr := B.returns
  have hts := atoms_spec (ws := (.code y_Hex_roundTo cd_Hex_roundTo 7 none :: gw)) B.pre
  have hg : ∀ w ∈ gw, w.before _ s = true := fun w h => hts w (List.mem_cons_of_mem _ h)
  have hown : s.vm.findClass R_Hex = some m.cls := findClass_of_methodNamed B.named
  have hlocks := B.notSynchronized
  subst hsz
  have hK := hE.K
  have hD := hD0.self (sz := s.heap.size)
  have hAb := hE.ab hD0
  obtain ⟨Q, hQ⟩ : ∃ Q, MQ below (QV G (va_A (w_Hex_take G qt t_mantissa t_exponent t_digits) s.heap.size) (w_Hex_take G qt res.1 res.2.1 res.2.2)) ([.ref qt, .int a1] : List Value).toArray s 0 0 (va_A (w_Hex_take G qt t_mantissa t_exponent t_digits) s.heap.size) = Q := ⟨_, rfl⟩
  show W p l e { frames := 0, cells := 0, slots := 0, locals := 0 } s m ([.ref qt, .int a1] : List Value).toArray below meth c s.heap [] 0 0 (MQ below (QV G (va_A (w_Hex_take G qt t_mantissa t_exponent t_digits) s.heap.size) (w_Hex_take G qt res.1 res.2.1 res.2.2)) ([.ref qt, .int a1] : List Value).toArray s 0 0 (va_A (w_Hex_take G qt t_mantissa t_exponent t_digits) s.heap.size)) _
  rw [hQ]
  have hA : ∀ q : Nat, s.heap.size ≤ q → va_A (w_Hex_take G qt t_mantissa t_exponent t_digits) s.heap.size q := fun q h => Or.inr h
  obtain ⟨A, hAe⟩ : ∃ A, va_A (w_Hex_take G qt t_mantissa t_exponent t_digits) s.heap.size = A := ⟨_, rfl⟩
  rw [hAe] at hA hD hAb hQ
  have hS : va_S A s.heap s.heap [] := va_S.rf
  have hl := lv_entry (([.ref qt, .int a1] : List Value)) (n := 7) (Nat.le_of_ble_eq_true rfl)
  rw [lg_entry_eq]
  generalize (lg_sl (([.ref qt, .int a1] : List Value)) ++ List.replicate (7 - (lg_sl (([.ref qt, .int a1] : List Value))).length) Slot.unset).toArray = ls at hl ⊢
  have hl : lv_has ls 7 [(0, .ref qt), (1, .int a1)] := hl
  have W_86 : ∀ (t_mantissa : Int64) (t_exponent : Int32) (t_digits : Int32) , k_Hex_roundTo_86 a1 t_mantissa t_exponent t_digits = some res → ∀ (H : Heap) (locs : List Loc) (ls : Array Slot), va_P (gD G) vwCl (w_Hex_take G qt t_mantissa t_exponent t_digits) H → va_D A (w_Hex_take G qt t_mantissa t_exponent t_digits) → va_S A s.heap H locs → lv_has ls 7 [(0, .ref qt), (1, .int a1)] → W p l e { frames := 0, cells := 0, slots := 0, locals := 0 } s m ([.ref qt, .int a1] : List Value).toArray below meth c H locs 0 0 Q (F0 m 86 ls []) := by
    intro t_mantissa t_exponent t_digits  hf H locs ls hP hD hS hl
    unfold k_Hex_roundTo_86 at hf
    refine lv_aload_n hx hb d_Hex_roundTo_86 rfl (lv_at hl 0 rfl) ?_
    refine lv_iload_n hx hb d_Hex_roundTo_87 rfl (lv_at hl 1 rfl) ?_
    refine va_put (D := gD G) (ci := 3) (v := .int a1) (ty := .int) (C := R_Hex) (T := F_Hex) (N := 3) hx hb hg in_Hex t_Hex to_Hex no_Hex hown hK hP hD hS 0 rfl rfl 2 (by decide) (hg _ m_75) (fun _ h9 => h9) rfl (by decide +kernel) rfl rfl (Nat.le_of_ble_eq_true rfl) d_Hex_roundTo_88 (fun H locs hP hD hS => ?_)
    have hP : va_P (gD G) vwCl (w_Hex_take G qt t_mantissa t_exponent a1) H := hP
    have hD : va_D A (w_Hex_take G qt t_mantissa t_exponent a1) := hD
    refine lv_aload_n hx hb d_Hex_roundTo_91 rfl (lv_at hl 0 rfl) ?_
    refine va_get (D := gD G) (ci := 3) (v := .long t_mantissa) (C := R_Hex) (T := F_Hex) (N := 3) hx hb hg in_Hex hown hK hP 0 rfl rfl 0 (by decide) (hg _ m_78) (fun _ h9 => h9) rfl d_Hex_roundTo_92 ?_
    refine lv_iconst (v := 4) hx hb d_Hex_roundTo_95 (by decide) ?_
    refine lv_aload_n hx hb d_Hex_roundTo_96 rfl (lv_at hl 0 rfl) ?_
    refine va_get (D := gD G) (ci := 3) (v := .int a1) (C := R_Hex) (T := F_Hex) (N := 3) hx hb hg in_Hex hown hK hP 0 rfl rfl 2 (by decide) (hg _ m_75) (fun _ h9 => h9) rfl d_Hex_roundTo_97 ?_
    refine lv_imul hx hb d_Hex_roundTo_100 ?_
    refine lv_lushr (v := (t_mantissa.toUInt64 >>> (((4 : Int32) * a1).toInt64.toUInt64 &&& Int64.toUInt64 63)).toInt64) hx hb d_Hex_roundTo_101 rfl ?_
    refine lv_ldc2 (v := 2) hx hb hown (hg _ m_84) d_Hex_roundTo_102 ?_
    refine W.lcmp hx hb d_Hex_roundTo_105 ?_
    refine lv_if_ne (tgt := 129) hx hb d_Hex_roundTo_106 (by decide) (fun c_106 => ?_) (fun c_106 => ?_)
    · have hf := in_ c_106 hf
      obtain rfl := Option.some.inj hf
      rw [← hQ]
      exact W.vret hx hb hr (fun t9 ht hW => ⟨⟨(), rfl, trivial, ⟨by rw [ht]; exact hP, hD⟩⟩, hS.F ht⟩) hS.2.2 d_Hex_roundTo_129
    · have hf := ip_ c_106 hf
      refine lv_aload_n hx hb d_Hex_roundTo_109 rfl (lv_at hl 0 rfl) ?_
      refine lv_dup hx hb d_Hex_roundTo_110 rfl ?_
      refine va_get (D := gD G) (ci := 3) (v := .long t_mantissa) (C := R_Hex) (T := F_Hex) (N := 3) hx hb hg in_Hex hown hK hP 0 rfl rfl 0 (by decide) (hg _ m_78) (fun _ h9 => h9) rfl d_Hex_roundTo_111 ?_
      refine lv_iconst (v := 1) hx hb d_Hex_roundTo_114 (by decide) ?_
      refine lv_lushr (v := (t_mantissa.toUInt64 >>> ((1 : Int32).toInt64.toUInt64 &&& Int64.toUInt64 63)).toInt64) hx hb d_Hex_roundTo_115 rfl ?_
      refine va_put (D := gD G) (ci := 3) (v := .long ((t_mantissa.toUInt64 >>> ((1 : Int32).toInt64.toUInt64 &&& Int64.toUInt64 63)).toInt64)) (ty := .long) (C := R_Hex) (T := F_Hex) (N := 3) hx hb hg in_Hex t_Hex to_Hex no_Hex hown hK hP hD hS 0 rfl rfl 0 (by decide) (hg _ m_78) (fun _ h9 => h9) rfl (by decide +kernel) rfl rfl (Nat.le_of_ble_eq_true rfl) d_Hex_roundTo_116 (fun H locs hP hD hS => ?_)
      have hP : va_P (gD G) vwCl (w_Hex_take G qt ((t_mantissa.toUInt64 >>> ((1 : Int32).toInt64.toUInt64 &&& Int64.toUInt64 63)).toInt64) t_exponent a1) H := hP
      have hD : va_D A (w_Hex_take G qt ((t_mantissa.toUInt64 >>> ((1 : Int32).toInt64.toUInt64 &&& Int64.toUInt64 63)).toInt64) t_exponent a1) := hD
      refine lv_aload_n hx hb d_Hex_roundTo_119 rfl (lv_at hl 0 rfl) ?_
      refine lv_dup hx hb d_Hex_roundTo_120 rfl ?_
      refine va_get (D := gD G) (ci := 3) (v := .int t_exponent) (C := R_Hex) (T := F_Hex) (N := 3) hx hb hg in_Hex hown hK hP 0 rfl rfl 1 (by decide) (hg _ m_76) (fun _ h9 => h9) rfl d_Hex_roundTo_121 ?_
      refine lv_iconst (v := 1) hx hb d_Hex_roundTo_124 (by decide) ?_
      refine lv_iadd hx hb d_Hex_roundTo_125 ?_
      refine va_put (D := gD G) (ci := 3) (v := .int (t_exponent + (1 : Int32))) (ty := .int) (C := R_Hex) (T := F_Hex) (N := 3) hx hb hg in_Hex t_Hex to_Hex no_Hex hown hK hP hD hS 0 rfl rfl 1 (by decide) (hg _ m_76) (fun _ h9 => h9) rfl (by decide +kernel) rfl rfl (Nat.le_of_ble_eq_true rfl) d_Hex_roundTo_126 (fun H locs hP hD hS => ?_)
      have hP : va_P (gD G) vwCl (w_Hex_take G qt ((t_mantissa.toUInt64 >>> ((1 : Int32).toInt64.toUInt64 &&& Int64.toUInt64 63)).toInt64) (t_exponent + (1 : Int32)) a1) H := hP
      have hD : va_D A (w_Hex_take G qt ((t_mantissa.toUInt64 >>> ((1 : Int32).toInt64.toUInt64 &&& Int64.toUInt64 63)).toInt64) (t_exponent + (1 : Int32)) a1) := hD
      obtain rfl := Option.some.inj hf
      rw [← hQ]
      exact W.vret hx hb hr (fun t9 ht hW => ⟨⟨(), rfl, trivial, ⟨by rw [ht]; exact hP, hD⟩⟩, hS.F ht⟩) hS.2.2 d_Hex_roundTo_129
  have W_76 : ∀ (t_mantissa : Int64) (t_exponent : Int32) (t_digits : Int32) , k_Hex_roundTo_76 a1 t_mantissa t_exponent t_digits = some res → ∀ (H : Heap) (locs : List Loc) (ls : Array Slot), va_P (gD G) vwCl (w_Hex_take G qt t_mantissa t_exponent t_digits) H → va_D A (w_Hex_take G qt t_mantissa t_exponent t_digits) → va_S A s.heap H locs → lv_has ls 7 [(0, .ref qt), (1, .int a1)] → W p l e { frames := 0, cells := 0, slots := 0, locals := 0 } s m ([.ref qt, .int a1] : List Value).toArray below meth c H locs 0 0 Q (F0 m 76 ls []) := by
    intro t_mantissa t_exponent t_digits  hf H locs ls hP hD hS hl
    unfold k_Hex_roundTo_76 at hf
    refine lv_aload_n hx hb d_Hex_roundTo_76 rfl (lv_at hl 0 rfl) ?_
    refine lv_dup hx hb d_Hex_roundTo_77 rfl ?_
    refine va_get (D := gD G) (ci := 3) (v := .long t_mantissa) (C := R_Hex) (T := F_Hex) (N := 3) hx hb hg in_Hex hown hK hP 0 rfl rfl 0 (by decide) (hg _ m_78) (fun _ h9 => h9) rfl d_Hex_roundTo_78 ?_
    refine lv_lconst (v := 1) hx hb d_Hex_roundTo_81 (by decide) ?_
    refine lv_ladd hx hb d_Hex_roundTo_82 ?_
    refine va_put (D := gD G) (ci := 3) (v := .long (t_mantissa + (1 : Int64))) (ty := .long) (C := R_Hex) (T := F_Hex) (N := 3) hx hb hg in_Hex t_Hex to_Hex no_Hex hown hK hP hD hS 0 rfl rfl 0 (by decide) (hg _ m_78) (fun _ h9 => h9) rfl (by decide +kernel) rfl rfl (Nat.le_of_ble_eq_true rfl) d_Hex_roundTo_83 (fun H locs hP hD hS => ?_)
    have hP : va_P (gD G) vwCl (w_Hex_take G qt (t_mantissa + (1 : Int64)) t_exponent t_digits) H := hP
    have hD : va_D A (w_Hex_take G qt (t_mantissa + (1 : Int64)) t_exponent t_digits) := hD
    exact W_86 (t_mantissa + (1 : Int64)) t_exponent t_digits  hf _ _ _ hP hD hS (lv_sub hl [0, 1] rfl)
  unfold f_Hex_roundTo at hf
  refine lv_iload_n hx hb d_Hex_roundTo_0 rfl (lv_at hl 1 rfl) ?_
  refine lv_iconst (v := 1) hx hb d_Hex_roundTo_1 (by decide) ?_
  refine lv_icmp_lt (tgt := 13) hx hb d_Hex_roundTo_2 (by decide) (fun c_2 => ?_) (fun c_2 => ?_)
  · have hf := ip_ c_2 hf
    obtain rfl := Option.some.inj hf
    rw [← hQ]
    exact W.vret hx hb hr (fun t9 ht hW => ⟨⟨(), rfl, trivial, ⟨by rw [ht]; exact hP, hD⟩⟩, hS.F ht⟩) hS.2.2 d_Hex_roundTo_13
  · have hf := in_ c_2 hf
    refine lv_iload_n hx hb d_Hex_roundTo_5 rfl (lv_at hl 1 rfl) ?_
    refine lv_aload_n hx hb d_Hex_roundTo_6 rfl (lv_at hl 0 rfl) ?_
    refine va_get (D := gD G) (ci := 3) (v := .int t_digits) (C := R_Hex) (T := F_Hex) (N := 3) hx hb hg in_Hex hown hK hP 0 rfl rfl 2 (by decide) (hg _ m_75) (fun _ h9 => h9) rfl d_Hex_roundTo_7 ?_
    refine lv_icmp_lt (tgt := 14) hx hb d_Hex_roundTo_10 (by decide) (fun c_10 => ?_) (fun c_10 => ?_)
    · have hf := ip_ c_10 hf
      refine lv_iconst (v := 4) hx hb d_Hex_roundTo_14 (by decide) ?_
      refine lv_aload_n hx hb d_Hex_roundTo_15 rfl (lv_at hl 0 rfl) ?_
      refine va_get (D := gD G) (ci := 3) (v := .int t_digits) (C := R_Hex) (T := F_Hex) (N := 3) hx hb hg in_Hex hown hK hP 0 rfl rfl 2 (by decide) (hg _ m_75) (fun _ h9 => h9) rfl d_Hex_roundTo_16 ?_
      refine lv_iload_n hx hb d_Hex_roundTo_19 rfl (lv_at hl 1 rfl) ?_
      refine lv_isub hx hb d_Hex_roundTo_20 ?_
      refine lv_imul hx hb d_Hex_roundTo_21 ?_
      refine lv_istore_n (lv' := [(2, .int ((4 : Int32) * (t_digits - a1))), (0, .ref qt), (1, .int a1)]) hx hb d_Hex_roundTo_22 rfl hl (by decide) rfl (fun ls hl => ?_)
      refine lv_lconst (v := 1) hx hb d_Hex_roundTo_23 (by decide) ?_
      refine lv_iload_n hx hb d_Hex_roundTo_24 rfl (lv_at hl 0 rfl) ?_
      refine lv_iconst (v := 1) hx hb d_Hex_roundTo_25 (by decide) ?_
      refine lv_isub hx hb d_Hex_roundTo_26 ?_
      refine lv_lshl (v := ((1 : Int64) <<< ((((4 : Int32) * (t_digits - a1)) - (1 : Int32)).toInt64 &&& 63))) hx hb d_Hex_roundTo_27 rfl ?_
      refine lv_lstore_n (lv' := [(3, .long ((1 : Int64) <<< ((((4 : Int32) * (t_digits - a1)) - (1 : Int32)).toInt64 &&& 63))), (2, .int ((4 : Int32) * (t_digits - a1))), (0, .ref qt), (1, .int a1)]) hx hb d_Hex_roundTo_28 rfl hl (by decide) rfl (fun ls hl => ?_)
      refine lv_aload_n hx hb d_Hex_roundTo_29 rfl (lv_at hl 2 rfl) ?_
      refine va_get (D := gD G) (ci := 3) (v := .long t_mantissa) (C := R_Hex) (T := F_Hex) (N := 3) hx hb hg in_Hex hown hK hP 0 rfl rfl 0 (by decide) (hg _ m_78) (fun _ h9 => h9) rfl d_Hex_roundTo_30 ?_
      refine lv_lconst (v := 1) hx hb d_Hex_roundTo_33 (by decide) ?_
      refine lv_iload_n hx hb d_Hex_roundTo_34 rfl (lv_at hl 1 rfl) ?_
      refine lv_lshl (v := ((1 : Int64) <<< (((4 : Int32) * (t_digits - a1)).toInt64 &&& 63))) hx hb d_Hex_roundTo_35 rfl ?_
      refine lv_lconst (v := 1) hx hb d_Hex_roundTo_36 (by decide) ?_
      refine lv_lsub hx hb d_Hex_roundTo_37 ?_
      refine lv_land hx hb d_Hex_roundTo_38 ?_
      refine lv_lstore (lv' := [(5, .long (t_mantissa &&& (((1 : Int64) <<< (((4 : Int32) * (t_digits - a1)).toInt64 &&& 63)) - (1 : Int64)))), (3, .long ((1 : Int64) <<< ((((4 : Int32) * (t_digits - a1)) - (1 : Int32)).toInt64 &&& 63))), (2, .int ((4 : Int32) * (t_digits - a1))), (0, .ref qt), (1, .int a1)]) hx hb d_Hex_roundTo_39 hl (by decide) rfl (fun ls hl => ?_)
      refine lv_aload_n hx hb d_Hex_roundTo_41 rfl (lv_at hl 3 rfl) ?_
      refine lv_dup hx hb d_Hex_roundTo_42 rfl ?_
      refine va_get (D := gD G) (ci := 3) (v := .long t_mantissa) (C := R_Hex) (T := F_Hex) (N := 3) hx hb hg in_Hex hown hK hP 0 rfl rfl 0 (by decide) (hg _ m_78) (fun _ h9 => h9) rfl d_Hex_roundTo_43 ?_
      refine lv_iload_n hx hb d_Hex_roundTo_46 rfl (lv_at hl 2 rfl) ?_
      refine lv_lushr (v := (t_mantissa.toUInt64 >>> (((4 : Int32) * (t_digits - a1)).toInt64.toUInt64 &&& Int64.toUInt64 63)).toInt64) hx hb d_Hex_roundTo_47 rfl ?_
      refine va_put (D := gD G) (ci := 3) (v := .long ((t_mantissa.toUInt64 >>> (((4 : Int32) * (t_digits - a1)).toInt64.toUInt64 &&& Int64.toUInt64 63)).toInt64)) (ty := .long) (C := R_Hex) (T := F_Hex) (N := 3) hx hb hg in_Hex t_Hex to_Hex no_Hex hown hK hP hD hS 0 rfl rfl 0 (by decide) (hg _ m_78) (fun _ h9 => h9) rfl (by decide +kernel) rfl rfl (Nat.le_of_ble_eq_true rfl) d_Hex_roundTo_48 (fun H locs hP hD hS => ?_)
      have hP : va_P (gD G) vwCl (w_Hex_take G qt ((t_mantissa.toUInt64 >>> (((4 : Int32) * (t_digits - a1)).toInt64.toUInt64 &&& Int64.toUInt64 63)).toInt64) t_exponent t_digits) H := hP
      have hD : va_D A (w_Hex_take G qt ((t_mantissa.toUInt64 >>> (((4 : Int32) * (t_digits - a1)).toInt64.toUInt64 &&& Int64.toUInt64 63)).toInt64) t_exponent t_digits) := hD
      refine lv_lload hx hb d_Hex_roundTo_51 (lv_at hl 0 rfl) ?_
      refine lv_lload_n hx hb d_Hex_roundTo_53 rfl (lv_at hl 1 rfl) ?_
      refine W.lcmp hx hb d_Hex_roundTo_54 ?_
      refine lv_if_gt (tgt := 76) hx hb d_Hex_roundTo_55 (by decide) (fun c_55 => ?_) (fun c_55 => ?_)
      · have hf := ip_ c_55 hf
        exact W_76 ((t_mantissa.toUInt64 >>> (((4 : Int32) * (t_digits - a1)).toInt64.toUInt64 &&& Int64.toUInt64 63)).toInt64) t_exponent t_digits  hf _ _ _ hP hD hS (lv_sub hl [3, 4] rfl)
      · have hf := in_ c_55 hf
        refine lv_lload hx hb d_Hex_roundTo_58 (lv_at hl 0 rfl) ?_
        refine lv_lload_n hx hb d_Hex_roundTo_60 rfl (lv_at hl 1 rfl) ?_
        refine W.lcmp hx hb d_Hex_roundTo_61 ?_
        refine lv_if_ne (tgt := 86) hx hb d_Hex_roundTo_62 (by decide) (fun c_62 => ?_) (fun c_62 => ?_)
        · have hf := in_ c_62 hf
          exact W_86 ((t_mantissa.toUInt64 >>> (((4 : Int32) * (t_digits - a1)).toInt64.toUInt64 &&& Int64.toUInt64 63)).toInt64) t_exponent t_digits  hf _ _ _ hP hD hS (lv_sub hl [3, 4] rfl)
        · have hf := ip_ c_62 hf
          refine lv_aload_n hx hb d_Hex_roundTo_65 rfl (lv_at hl 3 rfl) ?_
          refine va_get (D := gD G) (ci := 3) (v := .long ((t_mantissa.toUInt64 >>> (((4 : Int32) * (t_digits - a1)).toInt64.toUInt64 &&& Int64.toUInt64 63)).toInt64)) (C := R_Hex) (T := F_Hex) (N := 3) hx hb hg in_Hex hown hK hP 0 rfl rfl 0 (by decide) (hg _ m_78) (fun _ h9 => h9) rfl d_Hex_roundTo_66 ?_
          refine lv_lconst (v := 1) hx hb d_Hex_roundTo_69 (by decide) ?_
          refine lv_land hx hb d_Hex_roundTo_70 ?_
          refine lv_lconst (v := 1) hx hb d_Hex_roundTo_71 (by decide) ?_
          refine W.lcmp hx hb d_Hex_roundTo_72 ?_
          refine lv_if_ne (tgt := 86) hx hb d_Hex_roundTo_73 (by decide) (fun c_73 => ?_) (fun c_73 => ?_)
          · have hf := in_ c_73 hf
            exact W_86 ((t_mantissa.toUInt64 >>> (((4 : Int32) * (t_digits - a1)).toInt64.toUInt64 &&& Int64.toUInt64 63)).toInt64) t_exponent t_digits  hf _ _ _ hP hD hS (lv_sub hl [3, 4] rfl)
          · have hf := ip_ c_73 hf
            exact W_76 ((t_mantissa.toUInt64 >>> (((4 : Int32) * (t_digits - a1)).toInt64.toUInt64 &&& Int64.toUInt64 63)).toInt64) t_exponent t_digits  hf _ _ _ hP hD hS (lv_sub hl [3, 4] rfl)
    · have hf := in_ c_10 hf
      obtain rfl := Option.some.inj hf
      rw [← hQ]
      exact W.vret hx hb hr (fun t9 ht hW => ⟨⟨(), rfl, trivial, ⟨by rw [ht]; exact hP, hD⟩⟩, hS.F ht⟩) hS.2.2 d_Hex_roundTo_13
theorem d_Hex_dropZeros_0 : decode cd_Hex_dropZeros 0 = .ok (.aload_n 0, 1) := by decide +kernel
theorem d_Hex_dropZeros_1 : decode cd_Hex_dropZeros 1 = .ok (.getfield 9, 3) := by decide +kernel
theorem d_Hex_dropZeros_4 : decode cd_Hex_dropZeros 4 = .ok (.iconst 1, 1) := by decide +kernel
theorem d_Hex_dropZeros_5 : decode cd_Hex_dropZeros 5 = .ok (.if_icmp .le 39, 3) := by decide +kernel
theorem d_Hex_dropZeros_8 : decode cd_Hex_dropZeros 8 = .ok (.aload_n 0, 1) := by decide +kernel
theorem d_Hex_dropZeros_9 : decode cd_Hex_dropZeros 9 = .ok (.getfield 18, 3) := by decide +kernel
theorem d_Hex_dropZeros_12 : decode cd_Hex_dropZeros 12 = .ok (.ldc2_w 30, 3) := by decide +kernel
theorem d_Hex_dropZeros_15 : decode cd_Hex_dropZeros 15 = .ok (.land, 1) := by decide +kernel
theorem d_Hex_dropZeros_16 : decode cd_Hex_dropZeros 16 = .ok (.lconst 0, 1) := by decide +kernel
theorem d_Hex_dropZeros_17 : decode cd_Hex_dropZeros 17 = .ok (.lcmp, 1) := by decide +kernel
theorem d_Hex_dropZeros_18 : decode cd_Hex_dropZeros 18 = .ok (.ifCond .ne 26, 3) := by decide +kernel
theorem d_Hex_dropZeros_21 : decode cd_Hex_dropZeros 21 = .ok (.aload_n 0, 1) := by decide +kernel
theorem d_Hex_dropZeros_22 : decode cd_Hex_dropZeros 22 = .ok (.dup, 1) := by decide +kernel
theorem d_Hex_dropZeros_23 : decode cd_Hex_dropZeros 23 = .ok (.getfield 18, 3) := by decide +kernel
theorem d_Hex_dropZeros_26 : decode cd_Hex_dropZeros 26 = .ok (.iconst 4, 1) := by decide +kernel
theorem d_Hex_dropZeros_27 : decode cd_Hex_dropZeros 27 = .ok (.lushr, 1) := by decide +kernel
theorem d_Hex_dropZeros_28 : decode cd_Hex_dropZeros 28 = .ok (.putfield 18, 3) := by decide +kernel
theorem d_Hex_dropZeros_31 : decode cd_Hex_dropZeros 31 = .ok (.aload_n 0, 1) := by decide +kernel
theorem d_Hex_dropZeros_32 : decode cd_Hex_dropZeros 32 = .ok (.dup, 1) := by decide +kernel
theorem d_Hex_dropZeros_33 : decode cd_Hex_dropZeros 33 = .ok (.getfield 9, 3) := by decide +kernel
theorem d_Hex_dropZeros_36 : decode cd_Hex_dropZeros 36 = .ok (.iconst 1, 1) := by decide +kernel
theorem d_Hex_dropZeros_37 : decode cd_Hex_dropZeros 37 = .ok (.isub, 1) := by decide +kernel
theorem d_Hex_dropZeros_38 : decode cd_Hex_dropZeros 38 = .ok (.putfield 9, 3) := by decide +kernel
theorem d_Hex_dropZeros_41 : decode cd_Hex_dropZeros 41 = .ok (.goto (-41), 3) := by decide +kernel
theorem d_Hex_dropZeros_44 : decode cd_Hex_dropZeros 44 = .ok (.return_, 1) := by decide +kernel
theorem m_85 : Cond.constantLong R_Hex 30 15 ∈ gw := gm (i := 810) (by decide +kernel) (by decide +kernel)
def b_Hex_dropZeros_0   (rec_0 : (Int64 × Int32) → Option (Int64 × Int32)) (z0 : Int64 × Int32) : Option (Int64 × Int32) :=
  (if z0.2 ≤ (1 : Int32) then some (z0.1, z0.2) else (if (lg_cmp (z0.1 &&& (15 : Int64)) (0 : Int64)) = 0 then rec_0 ((z0.1.toUInt64 >>> ((4 : Int32).toInt64.toUInt64 &&& Int64.toUInt64 63)).toInt64, (z0.2 - (1 : Int32))) else some (z0.1, z0.2)))
def f_Hex_dropZeros (K : Nat) (t_mantissa : Int64) (t_digits : Int32) : Option (Int64 × Int32) :=
  lp_ (b_Hex_dropZeros_0  ) K (t_mantissa, t_digits)
set_option maxHeartbeats 4000000 in
set_option maxRecDepth 100000 in
theorem c_Hex_dropZeros (l : Launch) (G : Gt) (K : Nat) (qt : Nat) (t_mantissa : Int64) (t_exponent : Int32) (t_digits : Int32) (sz : Nat) (res : Int64 × Int32)   (hf : f_Hex_dropZeros K t_mantissa t_digits = some res) : Met l y_Hex_dropZeros (.code y_Hex_dropZeros cd_Hex_dropZeros 1 none :: gw) { frames := 0, cells := 0, slots := 0, locals := 0 } (PC G ([.ref qt] : List Value) sz (w_Hex_take G qt t_mantissa t_exponent t_digits)) (QV G (va_A (w_Hex_take G qt t_mantissa t_exponent t_digits) sz) (w_Hex_take G qt res.1 t_exponent res.2)) 0 0 (va_A (w_Hex_take G qt t_mantissa t_exponent t_digits) sz) := by
  refine Met.ofW (cc := cd_Hex_dropZeros) (maxL := 1) (ret := none) (by decide) rfl ?_
  intro p e s m args below meth c s₁ B hml hv
  obtain ⟨rfl, hsz, hP, hE, hD0⟩ := hv
  have hx := B.exec
  have hb := B.bytes
  have hr := B.returns
  have hts := atoms_spec (ws := (.code y_Hex_dropZeros cd_Hex_dropZeros 1 none :: gw)) B.pre
  have hg : ∀ w ∈ gw, w.before _ s = true := fun w h => hts w (List.mem_cons_of_mem _ h)
  have hown : s.vm.findClass R_Hex = some m.cls := findClass_of_methodNamed B.named
  have hlocks := B.notSynchronized
  subst hsz
  have hK := hE.K
  have hD := hD0.self (sz := s.heap.size)
  have hAb := hE.ab hD0
  obtain ⟨Q, hQ⟩ : ∃ Q, MQ below (QV G (va_A (w_Hex_take G qt t_mantissa t_exponent t_digits) s.heap.size) (w_Hex_take G qt res.1 t_exponent res.2)) ([.ref qt] : List Value).toArray s 0 0 (va_A (w_Hex_take G qt t_mantissa t_exponent t_digits) s.heap.size) = Q := ⟨_, rfl⟩
  show W p l e { frames := 0, cells := 0, slots := 0, locals := 0 } s m ([.ref qt] : List Value).toArray below meth c s.heap [] 0 0 (MQ below (QV G (va_A (w_Hex_take G qt t_mantissa t_exponent t_digits) s.heap.size) (w_Hex_take G qt res.1 t_exponent res.2)) ([.ref qt] : List Value).toArray s 0 0 (va_A (w_Hex_take G qt t_mantissa t_exponent t_digits) s.heap.size)) _
  rw [hQ]
  have hA : ∀ q : Nat, s.heap.size ≤ q → va_A (w_Hex_take G qt t_mantissa t_exponent t_digits) s.heap.size q := fun q h => Or.inr h
  obtain ⟨A, hAe⟩ : ∃ A, va_A (w_Hex_take G qt t_mantissa t_exponent t_digits) s.heap.size = A := ⟨_, rfl⟩
  rw [hAe] at hA hD hAb hQ
  have hS : va_S A s.heap s.heap [] := va_S.rf
  have hl := lv_entry (([.ref qt] : List Value)) (n := 1) (Nat.le_of_ble_eq_true rfl)
  rw [lg_entry_eq]
  generalize (lg_sl (([.ref qt] : List Value)) ++ List.replicate (1 - (lg_sl (([.ref qt] : List Value))).length) Slot.unset).toArray = ls at hl ⊢
  have hl : lv_has ls 1 [(0, .ref qt)] := hl
  have W_0 : ∀   (n_0 : Nat) (z0 : Int64 × Int32) , lp_ (b_Hex_dropZeros_0  ) n_0 z0 = some res → ∀ (H : Heap) (locs : List Loc) (ls : Array Slot), va_P (gD G) vwCl (w_Hex_take G qt z0.1 t_exponent z0.2) H → va_D A (w_Hex_take G qt z0.1 t_exponent z0.2) → va_S A s.heap H locs → lv_has ls 1 [(0, .ref qt)] → W p l e { frames := 0, cells := 0, slots := 0, locals := 0 } s m ([.ref qt] : List Value).toArray below meth c H locs 0 0 Q (F0 m 0 ls []) := by
    intro  n_0
    induction n_0 with
    | zero =>
      intro z0  hf
      cases hf
    | succ n_0 ih_0 =>
      intro z0  hf H locs ls hP hD hS hl
      have hf : b_Hex_dropZeros_0   (lp_ (b_Hex_dropZeros_0  ) n_0) z0 = some res := hf
      generalize lp_ (b_Hex_dropZeros_0  ) n_0 = rec_0 at hf ih_0
      unfold b_Hex_dropZeros_0 at hf
      refine lv_aload_n hx hb d_Hex_dropZeros_0 rfl (lv_at hl 0 rfl) ?_
      refine va_get (D := gD G) (ci := 3) (v := .int z0.2) (C := R_Hex) (T := F_Hex) (N := 3) hx hb hg in_Hex hown hK hP 0 rfl rfl 2 (by decide) (hg _ m_75) (fun _ h9 => h9) rfl d_Hex_dropZeros_1 ?_
      refine lv_iconst (v := 1) hx hb d_Hex_dropZeros_4 (by decide) ?_
      refine lv_icmp_le (tgt := 44) hx hb d_Hex_dropZeros_5 (by decide) (fun c_5 => ?_) (fun c_5 => ?_)
      · have hf := ip_ c_5 hf
        obtain rfl := Option.some.inj hf
        rw [← hQ]
        exact W.vret hx hb hr (fun t9 ht hW => ⟨⟨(), rfl, trivial, ⟨by rw [ht]; exact hP, hD⟩⟩, hS.F ht⟩) hS.2.2 d_Hex_dropZeros_44
      · have hf := in_ c_5 hf
        refine lv_aload_n hx hb d_Hex_dropZeros_8 rfl (lv_at hl 0 rfl) ?_
        refine va_get (D := gD G) (ci := 3) (v := .long z0.1) (C := R_Hex) (T := F_Hex) (N := 3) hx hb hg in_Hex hown hK hP 0 rfl rfl 0 (by decide) (hg _ m_78) (fun _ h9 => h9) rfl d_Hex_dropZeros_9 ?_
        refine lv_ldc2 (v := 15) hx hb hown (hg _ m_85) d_Hex_dropZeros_12 ?_
        refine lv_land hx hb d_Hex_dropZeros_15 ?_
        refine lv_lconst (v := 0) hx hb d_Hex_dropZeros_16 (by decide) ?_
        refine W.lcmp hx hb d_Hex_dropZeros_17 ?_
        refine lv_if_ne (tgt := 44) hx hb d_Hex_dropZeros_18 (by decide) (fun c_18 => ?_) (fun c_18 => ?_)
        · have hf := in_ c_18 hf
          obtain rfl := Option.some.inj hf
          rw [← hQ]
          exact W.vret hx hb hr (fun t9 ht hW => ⟨⟨(), rfl, trivial, ⟨by rw [ht]; exact hP, hD⟩⟩, hS.F ht⟩) hS.2.2 d_Hex_dropZeros_44
        · have hf := ip_ c_18 hf
          refine lv_aload_n hx hb d_Hex_dropZeros_21 rfl (lv_at hl 0 rfl) ?_
          refine lv_dup hx hb d_Hex_dropZeros_22 rfl ?_
          refine va_get (D := gD G) (ci := 3) (v := .long z0.1) (C := R_Hex) (T := F_Hex) (N := 3) hx hb hg in_Hex hown hK hP 0 rfl rfl 0 (by decide) (hg _ m_78) (fun _ h9 => h9) rfl d_Hex_dropZeros_23 ?_
          refine lv_iconst (v := 4) hx hb d_Hex_dropZeros_26 (by decide) ?_
          refine lv_lushr (v := (z0.1.toUInt64 >>> ((4 : Int32).toInt64.toUInt64 &&& Int64.toUInt64 63)).toInt64) hx hb d_Hex_dropZeros_27 rfl ?_
          refine va_put (D := gD G) (ci := 3) (v := .long ((z0.1.toUInt64 >>> ((4 : Int32).toInt64.toUInt64 &&& Int64.toUInt64 63)).toInt64)) (ty := .long) (C := R_Hex) (T := F_Hex) (N := 3) hx hb hg in_Hex t_Hex to_Hex no_Hex hown hK hP hD hS 0 rfl rfl 0 (by decide) (hg _ m_78) (fun _ h9 => h9) rfl (by decide +kernel) rfl rfl (Nat.le_of_ble_eq_true rfl) d_Hex_dropZeros_28 (fun H locs hP hD hS => ?_)
          have hP : va_P (gD G) vwCl (w_Hex_take G qt ((z0.1.toUInt64 >>> ((4 : Int32).toInt64.toUInt64 &&& Int64.toUInt64 63)).toInt64) t_exponent z0.2) H := hP
          have hD : va_D A (w_Hex_take G qt ((z0.1.toUInt64 >>> ((4 : Int32).toInt64.toUInt64 &&& Int64.toUInt64 63)).toInt64) t_exponent z0.2) := hD
          refine lv_aload_n hx hb d_Hex_dropZeros_31 rfl (lv_at hl 0 rfl) ?_
          refine lv_dup hx hb d_Hex_dropZeros_32 rfl ?_
          refine va_get (D := gD G) (ci := 3) (v := .int z0.2) (C := R_Hex) (T := F_Hex) (N := 3) hx hb hg in_Hex hown hK hP 0 rfl rfl 2 (by decide) (hg _ m_75) (fun _ h9 => h9) rfl d_Hex_dropZeros_33 ?_
          refine lv_iconst (v := 1) hx hb d_Hex_dropZeros_36 (by decide) ?_
          refine lv_isub hx hb d_Hex_dropZeros_37 ?_
          refine va_put (D := gD G) (ci := 3) (v := .int (z0.2 - (1 : Int32))) (ty := .int) (C := R_Hex) (T := F_Hex) (N := 3) hx hb hg in_Hex t_Hex to_Hex no_Hex hown hK hP hD hS 0 rfl rfl 2 (by decide) (hg _ m_75) (fun _ h9 => h9) rfl (by decide +kernel) rfl rfl (Nat.le_of_ble_eq_true rfl) d_Hex_dropZeros_38 (fun H locs hP hD hS => ?_)
          have hP : va_P (gD G) vwCl (w_Hex_take G qt ((z0.1.toUInt64 >>> ((4 : Int32).toInt64.toUInt64 &&& Int64.toUInt64 63)).toInt64) t_exponent (z0.2 - (1 : Int32))) H := hP
          have hD : va_D A (w_Hex_take G qt ((z0.1.toUInt64 >>> ((4 : Int32).toInt64.toUInt64 &&& Int64.toUInt64 63)).toInt64) t_exponent (z0.2 - (1 : Int32))) := hD
          refine lv_goto (tgt := 0) hx hb d_Hex_dropZeros_41 (by decide) ?_
          exact ih_0 ((z0.1.toUInt64 >>> ((4 : Int32).toInt64.toUInt64 &&& Int64.toUInt64 63)).toInt64, (z0.2 - (1 : Int32)))  hf _ _ _ hP hD hS (lv_sub hl [0] rfl)
  unfold f_Hex_dropZeros at hf
  exact W_0   K (t_mantissa, t_digits)  hf _ _ _ hP hD hS (lv_sub hl [0] rfl)
theorem d_Hex_at_0 : decode cd_Hex_at 0 = .ok (.iload_n 1, 1) := by decide +kernel
theorem d_Hex_at_1 : decode cd_Hex_at 1 = .ok (.ifCond .lt 31, 3) := by decide +kernel
theorem d_Hex_at_4 : decode cd_Hex_at 4 = .ok (.iload_n 1, 1) := by decide +kernel
theorem d_Hex_at_5 : decode cd_Hex_at 5 = .ok (.aload_n 0, 1) := by decide +kernel
theorem d_Hex_at_6 : decode cd_Hex_at 6 = .ok (.getfield 9, 3) := by decide +kernel
theorem d_Hex_at_9 : decode cd_Hex_at 9 = .ok (.if_icmp .gt 23, 3) := by decide +kernel
theorem d_Hex_at_12 : decode cd_Hex_at 12 = .ok (.aload_n 0, 1) := by decide +kernel
theorem d_Hex_at_13 : decode cd_Hex_at 13 = .ok (.getfield 18, 3) := by decide +kernel
theorem d_Hex_at_16 : decode cd_Hex_at 16 = .ok (.iconst 4, 1) := by decide +kernel
theorem d_Hex_at_17 : decode cd_Hex_at 17 = .ok (.aload_n 0, 1) := by decide +kernel
theorem d_Hex_at_18 : decode cd_Hex_at 18 = .ok (.getfield 9, 3) := by decide +kernel
theorem d_Hex_at_21 : decode cd_Hex_at 21 = .ok (.iload_n 1, 1) := by decide +kernel
theorem d_Hex_at_22 : decode cd_Hex_at 22 = .ok (.isub, 1) := by decide +kernel
theorem d_Hex_at_23 : decode cd_Hex_at 23 = .ok (.imul, 1) := by decide +kernel
theorem d_Hex_at_24 : decode cd_Hex_at 24 = .ok (.lushr, 1) := by decide +kernel
theorem d_Hex_at_25 : decode cd_Hex_at 25 = .ok (.l2i, 1) := by decide +kernel
theorem d_Hex_at_26 : decode cd_Hex_at 26 = .ok (.bipush 15, 2) := by decide +kernel
theorem d_Hex_at_28 : decode cd_Hex_at 28 = .ok (.iand, 1) := by decide +kernel
theorem d_Hex_at_29 : decode cd_Hex_at 29 = .ok (.goto 4, 3) := by decide +kernel
theorem d_Hex_at_32 : decode cd_Hex_at 32 = .ok (.iconst 0, 1) := by decide +kernel
theorem d_Hex_at_33 : decode cd_Hex_at 33 = .ok (.ireturn, 1) := by decide +kernel
def f_Hex_at (t_mantissa : Int64) (t_digits : Int32) (a1 : Int32) : Option Int32 :=
  (if a1 < 0 then some (0 : Int32) else (if t_digits < a1 then some (0 : Int32) else some (((t_mantissa.toUInt64 >>> (((4 : Int32) * (t_digits - a1)).toInt64.toUInt64 &&& Int64.toUInt64 63)).toInt64).toInt32 &&& (15 : Int32))))
set_option maxHeartbeats 4000000 in
set_option maxRecDepth 100000 in
theorem c_Hex_at (l : Launch) (G : Gt) (K : Nat) (qt : Nat) (t_mantissa : Int64) (t_exponent : Int32) (t_digits : Int32) (a1 : Int32) (sz : Nat) (res : Int32)   (hf : f_Hex_at t_mantissa t_digits a1 = some res) : Met l y_Hex_at (.code y_Hex_at cd_Hex_at 2 (some .int) :: gw) { frames := 0, cells := 0, slots := 0, locals := 0 } (PC G ([.ref qt, .int a1] : List Value) sz (w_Hex_take G qt t_mantissa t_exponent t_digits)) (QI G res (va_A (w_Hex_take G qt t_mantissa t_exponent t_digits) sz) (w_Hex_take G qt t_mantissa t_exponent t_digits)) 0 0 (va_A (w_Hex_take G qt t_mantissa t_exponent t_digits) sz) := by
  refine Met.ofW (cc := cd_Hex_at) (maxL := 2) (ret := (some .int)) (by decide) rfl ?_
  intro p e s m args below meth c s₁ B hml hv
  obtain ⟨rfl, hsz, hP, hE, hD0⟩ := hv
  have hx := B.exec
  have hb := B.bytes
  have hr := B.returns
  have hts := atoms_spec (ws := (.code y_Hex_at cd_Hex_at 2 (some .int) :: gw)) B.pre
  have hg : ∀ w ∈ gw, w.before _ s = true := fun w h => hts w (List.mem_cons_of_mem _ h)
  have hown : s.vm.findClass R_Hex = some m.cls := findClass_of_methodNamed B.named
  have hlocks := B.notSynchronized
  subst hsz
  have hK := hE.K
  have hD := hD0.self (sz := s.heap.size)
  have hAb := hE.ab hD0
  obtain ⟨Q, hQ⟩ : ∃ Q, MQ below (QI G res (va_A (w_Hex_take G qt t_mantissa t_exponent t_digits) s.heap.size) (w_Hex_take G qt t_mantissa t_exponent t_digits)) ([.ref qt, .int a1] : List Value).toArray s 0 0 (va_A (w_Hex_take G qt t_mantissa t_exponent t_digits) s.heap.size) = Q := ⟨_, rfl⟩
  show W p l e { frames := 0, cells := 0, slots := 0, locals := 0 } s m ([.ref qt, .int a1] : List Value).toArray below meth c s.heap [] 0 0 (MQ below (QI G res (va_A (w_Hex_take G qt t_mantissa t_exponent t_digits) s.heap.size) (w_Hex_take G qt t_mantissa t_exponent t_digits)) ([.ref qt, .int a1] : List Value).toArray s 0 0 (va_A (w_Hex_take G qt t_mantissa t_exponent t_digits) s.heap.size)) _
  rw [hQ]
  have hA : ∀ q : Nat, s.heap.size ≤ q → va_A (w_Hex_take G qt t_mantissa t_exponent t_digits) s.heap.size q := fun q h => Or.inr h
  obtain ⟨A, hAe⟩ : ∃ A, va_A (w_Hex_take G qt t_mantissa t_exponent t_digits) s.heap.size = A := ⟨_, rfl⟩
  rw [hAe] at hA hD hAb hQ
  have hS : va_S A s.heap s.heap [] := va_S.rf
  have hl := lv_entry (([.ref qt, .int a1] : List Value)) (n := 2) (Nat.le_of_ble_eq_true rfl)
  rw [lg_entry_eq]
  generalize (lg_sl (([.ref qt, .int a1] : List Value)) ++ List.replicate (2 - (lg_sl (([.ref qt, .int a1] : List Value))).length) Slot.unset).toArray = ls at hl ⊢
  have hl : lv_has ls 2 [(0, .ref qt), (1, .int a1)] := hl
  unfold f_Hex_at at hf
  refine lv_iload_n hx hb d_Hex_at_0 rfl (lv_at hl 1 rfl) ?_
  refine lv_if_lt (tgt := 32) hx hb d_Hex_at_1 (by decide) (fun c_1 => ?_) (fun c_1 => ?_)
  · have hf := ip_ c_1 hf
    refine lv_iconst (v := 0) hx hb d_Hex_at_32 (by decide) ?_
    obtain rfl := Option.some.inj hf
    rw [← hQ]
    exact W.iret (v := (0 : Int32)) hx hb hr (fun t9 ht hW => ⟨⟨(0 : Int32), (), rfl, rfl, ⟨by rw [ht]; exact hP, hD⟩⟩, hS.F ht⟩) hS.2.2 d_Hex_at_33
  · have hf := in_ c_1 hf
    refine lv_iload_n hx hb d_Hex_at_4 rfl (lv_at hl 1 rfl) ?_
    refine lv_aload_n hx hb d_Hex_at_5 rfl (lv_at hl 0 rfl) ?_
    refine va_get (D := gD G) (ci := 3) (v := .int t_digits) (C := R_Hex) (T := F_Hex) (N := 3) hx hb hg in_Hex hown hK hP 0 rfl rfl 2 (by decide) (hg _ m_75) (fun _ h9 => h9) rfl d_Hex_at_6 ?_
    refine lv_icmp_gt (tgt := 32) hx hb d_Hex_at_9 (by decide) (fun c_9 => ?_) (fun c_9 => ?_)
    · have hf := ip_ c_9 hf
      refine lv_iconst (v := 0) hx hb d_Hex_at_32 (by decide) ?_
      obtain rfl := Option.some.inj hf
      rw [← hQ]
      exact W.iret (v := (0 : Int32)) hx hb hr (fun t9 ht hW => ⟨⟨(0 : Int32), (), rfl, rfl, ⟨by rw [ht]; exact hP, hD⟩⟩, hS.F ht⟩) hS.2.2 d_Hex_at_33
    · have hf := in_ c_9 hf
      refine lv_aload_n hx hb d_Hex_at_12 rfl (lv_at hl 0 rfl) ?_
      refine va_get (D := gD G) (ci := 3) (v := .long t_mantissa) (C := R_Hex) (T := F_Hex) (N := 3) hx hb hg in_Hex hown hK hP 0 rfl rfl 0 (by decide) (hg _ m_78) (fun _ h9 => h9) rfl d_Hex_at_13 ?_
      refine lv_iconst (v := 4) hx hb d_Hex_at_16 (by decide) ?_
      refine lv_aload_n hx hb d_Hex_at_17 rfl (lv_at hl 0 rfl) ?_
      refine va_get (D := gD G) (ci := 3) (v := .int t_digits) (C := R_Hex) (T := F_Hex) (N := 3) hx hb hg in_Hex hown hK hP 0 rfl rfl 2 (by decide) (hg _ m_75) (fun _ h9 => h9) rfl d_Hex_at_18 ?_
      refine lv_iload_n hx hb d_Hex_at_21 rfl (lv_at hl 1 rfl) ?_
      refine lv_isub hx hb d_Hex_at_22 ?_
      refine lv_imul hx hb d_Hex_at_23 ?_
      refine lv_lushr (v := (t_mantissa.toUInt64 >>> (((4 : Int32) * (t_digits - a1)).toInt64.toUInt64 &&& Int64.toUInt64 63)).toInt64) hx hb d_Hex_at_24 rfl ?_
      refine lv_l2i (v := ((t_mantissa.toUInt64 >>> (((4 : Int32) * (t_digits - a1)).toInt64.toUInt64 &&& Int64.toUInt64 63)).toInt64).toInt32) hx hb d_Hex_at_25 rfl ?_
      refine lv_bipush (v := 15) hx hb d_Hex_at_26 (by decide) ?_
      refine lv_iand hx hb d_Hex_at_28 ?_
      refine lv_goto (tgt := 33) hx hb d_Hex_at_29 (by decide) ?_
      obtain rfl := Option.some.inj hf
      rw [← hQ]
      exact W.iret (v := (((t_mantissa.toUInt64 >>> (((4 : Int32) * (t_digits - a1)).toInt64.toUInt64 &&& Int64.toUInt64 63)).toInt64).toInt32 &&& (15 : Int32))) hx hb hr (fun t9 ht hW => ⟨⟨(((t_mantissa.toUInt64 >>> (((4 : Int32) * (t_digits - a1)).toInt64.toUInt64 &&& Int64.toUInt64 63)).toInt64).toInt32 &&& (15 : Int32)), (), rfl, rfl, ⟨by rw [ht]; exact hP, hD⟩⟩, hS.F ht⟩) hS.2.2 d_Hex_at_33
