theorem d_Argument_become_0 : decode cd_Argument_become 0 = .ok (.aload_n 0, 1) := by decide +kernel
theorem d_Argument_become_1 : decode cd_Argument_become 1 = .ok (.getfield 11, 3) := by decide +kernel
theorem d_Argument_become_4 : decode cd_Argument_become 4 = .ok (.lconst 0, 1) := by decide +kernel
theorem d_Argument_become_5 : decode cd_Argument_become 5 = .ok (.invokestatic 24, 3) := by decide +kernel
theorem d_Argument_become_8 : decode cd_Argument_become 8 = .ok (.aload_n 0, 1) := by decide +kernel
theorem d_Argument_become_9 : decode cd_Argument_become 9 = .ok (.getfield 11, 3) := by decide +kernel
theorem d_Argument_become_12 : decode cd_Argument_become 12 = .ok (.iconst 0, 1) := by decide +kernel
theorem d_Argument_become_13 : decode cd_Argument_become 13 = .ok (.lload_n 3, 1) := by decide +kernel
theorem d_Argument_become_14 : decode cd_Argument_become 14 = .ok (.lastore, 1) := by decide +kernel
theorem d_Argument_become_15 : decode cd_Argument_become 15 = .ok (.aload_n 0, 1) := by decide +kernel
theorem d_Argument_become_16 : decode cd_Argument_become 16 = .ok (.aload_n 1, 1) := by decide +kernel
theorem d_Argument_become_17 : decode cd_Argument_become 17 = .ok (.putfield 21, 3) := by decide +kernel
theorem d_Argument_become_20 : decode cd_Argument_become 20 = .ok (.aload_n 0, 1) := by decide +kernel
theorem d_Argument_become_21 : decode cd_Argument_become 21 = .ok (.iload_n 2, 1) := by decide +kernel
theorem d_Argument_become_22 : decode cd_Argument_become 22 = .ok (.putfield 30, 3) := by decide +kernel
theorem d_Argument_become_25 : decode cd_Argument_become 25 = .ok (.aload_n 0, 1) := by decide +kernel
theorem d_Argument_become_26 : decode cd_Argument_become 26 = .ok (.lconst 0, 1) := by decide +kernel
theorem d_Argument_become_27 : decode cd_Argument_become 27 = .ok (.putfield 34, 3) := by decide +kernel
theorem d_Argument_become_30 : decode cd_Argument_become 30 = .ok (.aload_n 0, 1) := by decide +kernel
theorem d_Argument_become_31 : decode cd_Argument_become 31 = .ok (.iconst 0, 1) := by decide +kernel
theorem d_Argument_become_32 : decode cd_Argument_become 32 = .ok (.putfield 38, 3) := by decide +kernel
theorem d_Argument_become_35 : decode cd_Argument_become 35 = .ok (.aload_n 0, 1) := by decide +kernel
theorem d_Argument_become_36 : decode cd_Argument_become 36 = .ok (.iconst 0, 1) := by decide +kernel
theorem d_Argument_become_37 : decode cd_Argument_become 37 = .ok (.putfield 42, 3) := by decide +kernel
theorem d_Argument_become_40 : decode cd_Argument_become 40 = .ok (.aload_n 0, 1) := by decide +kernel
theorem d_Argument_become_41 : decode cd_Argument_become 41 = .ok (.aconst_null, 1) := by decide +kernel
theorem d_Argument_become_42 : decode cd_Argument_become 42 = .ok (.putfield 45, 3) := by decide +kernel
theorem d_Argument_become_45 : decode cd_Argument_become 45 = .ok (.return_, 1) := by decide +kernel
theorem m_86 : Cond.fieldLink R_Argument 11 "SpecifierDesk$Argument" "words" "[J" ∈ gw := gm (i := 256) (by decide +kernel) (by decide +kernel)
theorem m_87 : Cond.methodLink R_Argument 24 y_Arrays_fill ∈ gw := gm (i := 346) (by decide +kernel) (by decide +kernel)
theorem m_88 : Cond.static y_Arrays_fill ∈ gw := gm (i := 347) (by decide +kernel) (by decide +kernel)
theorem m_89 : Cond.initialized R_Arrays ∈ gw := gm (i := 93) (by decide +kernel) (by decide +kernel)
set_option maxRecDepth 100000 in
theorem m_90 : Cond.code y_Arrays_fill cd_Arrays_fill 5 none ∈ gw := gm (i := 348) rfl rfl
theorem m_91 : Cond.fieldLink R_Argument 21 "SpecifierDesk$Argument" "kind" "LSpecifierDesk$Kind;" ∈ gw := gm (i := 259) (by decide +kernel) (by decide +kernel)
theorem m_92 : Cond.fieldLink R_Argument 30 "SpecifierDesk$Argument" "minus" "Z" ∈ gw := gm (i := 262) (by decide +kernel) (by decide +kernel)
theorem m_93 : Cond.fieldLink R_Argument 34 "SpecifierDesk$Argument" "bits" "J" ∈ gw := gm (i := 264) (by decide +kernel) (by decide +kernel)
theorem m_94 : Cond.fieldLink R_Argument 38 "SpecifierDesk$Argument" "wide" "I" ∈ gw := gm (i := 267) (by decide +kernel) (by decide +kernel)
theorem m_95 : Cond.fieldLink R_Argument 42 "SpecifierDesk$Argument" "lowest" "I" ∈ gw := gm (i := 270) (by decide +kernel) (by decide +kernel)
theorem m_96 : Cond.fieldLink R_Argument 45 "SpecifierDesk$Argument" "letters" "LSpecifierDesk$Row;" ∈ gw := gm (i := 273) (by decide +kernel) (by decide +kernel)
def f_Argument_become (K : Nat) (t_words : Nat → Int64) (a1 : Nat) (a2 : Int32) (a3 : Int64) : Option (Nat × Int32 × Int64 × Int32 × Int32 × (Option Nat) × (Nat → Int64)) :=
  ((f_Arrays_fill K 8 t_words (0 : Int64)).bind fun u_5 => (if inB (0 : Int32) 8 = true then some (a1, a2, (0 : Int64), (0 : Int32), (0 : Int32), none, (vp_updL u_5 (0 : Int32).toNatClampNeg a3)) else none))
abbrev w_Argument_become (G : Gt) (qt : Nat) (qt_words : Nat) (t_words : Nat → Int64) (t_kind : Nat) (t_minus : Int32) (t_bits : Int64) (t_wide : Int32) (t_lowest : Int32) (t_letters : Option Nat) : va_W := [(qt, .inr (0, [.ref qt_words, .ref (gK G t_kind), .int t_minus, .long t_bits, .int t_wide, .int t_lowest, va_rf t_letters])), (qt_words, .inl (gC G 2, 8, .inr (.inl t_words)))]
set_option maxHeartbeats 4000000 in
set_option maxRecDepth 100000 in
theorem c_Argument_become (l : Launch) (G : Gt) (K : Nat) (qt : Nat) (qt_words : Nat) (t_words : Nat → Int64) (t_kind : Nat) (t_minus : Int32) (t_bits : Int64) (t_wide : Int32) (t_lowest : Int32) (t_letters : Option Nat) (a1 : Nat) (a2 : Int32) (a3 : Int64) (sz : Nat) (res : Nat × Int32 × Int64 × Int32 × Int32 × (Option Nat) × (Nat → Int64)) (hb_a2 : bl a2) (hr_t_kind : t_kind < 8) (hr_a1 : a1 < 8) (hf : f_Argument_become K t_words a1 a2 a3 = some res) : Met l y_Argument_become (.code y_Argument_become cd_Argument_become 5 none :: gw) { frames := 1, cells := 0, slots := 0, locals := 40 } (PC G ([.ref qt, .ref (gK G a1), .int a2, .long a3] : List Value) sz (w_Argument_become G qt qt_words t_words t_kind t_minus t_bits t_wide t_lowest t_letters)) (QV G (va_A (w_Argument_become G qt qt_words t_words t_kind t_minus t_bits t_wide t_lowest t_letters) sz) (w_Argument_become G qt qt_words res.2.2.2.2.2.2 res.1 res.2.1 res.2.2.1 res.2.2.2.1 res.2.2.2.2.1 res.2.2.2.2.2.1)) 0 0 (va_A (w_Argument_become G qt qt_words t_words t_kind t_minus t_bits t_wide t_lowest t_letters) sz) := by
  refine Met.ofW (cc := cd_Argument_become) (maxL := 5) (ret := none) (by decide) rfl ?_
  intro p e s m args below meth c s₁ B hml hv
  obtain ⟨rfl, hsz, hP, hE, hD0⟩ := hv
  have hx := B.exec
  have hb := B.bytes
  have hr := B.returns
  have hts := atoms_spec (ws := (.code y_Argument_become cd_Argument_become 5 none :: gw)) B.pre
  have hg : ∀ w ∈ gw, w.before _ s = true := fun w h => hts w (List.mem_cons_of_mem _ h)
  have hown : s.vm.findClass R_Argument = some m.cls := findClass_of_methodNamed B.named
  have hlocks := B.notSynchronized
  subst hsz
  have hK := hE.K
  have hD := hD0.self (sz := s.heap.size)
  have hAb := hE.ab hD0
  obtain ⟨Q, hQ⟩ : ∃ Q, MQ below (QV G (va_A (w_Argument_become G qt qt_words t_words t_kind t_minus t_bits t_wide t_lowest t_letters) s.heap.size) (w_Argument_become G qt qt_words res.2.2.2.2.2.2 res.1 res.2.1 res.2.2.1 res.2.2.2.1 res.2.2.2.2.1 res.2.2.2.2.2.1)) ([.ref qt, .ref (gK G a1), .int a2, .long a3] : List Value).toArray s 0 0 (va_A (w_Argument_become G qt qt_words t_words t_kind t_minus t_bits t_wide t_lowest t_letters) s.heap.size) = Q := ⟨_, rfl⟩
  show W p l e { frames := 1, cells := 0, slots := 0, locals := 40 } s m ([.ref qt, .ref (gK G a1), .int a2, .long a3] : List Value).toArray below meth c s.heap [] 0 0 (MQ below (QV G (va_A (w_Argument_become G qt qt_words t_words t_kind t_minus t_bits t_wide t_lowest t_letters) s.heap.size) (w_Argument_become G qt qt_words res.2.2.2.2.2.2 res.1 res.2.1 res.2.2.1 res.2.2.2.1 res.2.2.2.2.1 res.2.2.2.2.2.1)) ([.ref qt, .ref (gK G a1), .int a2, .long a3] : List Value).toArray s 0 0 (va_A (w_Argument_become G qt qt_words t_words t_kind t_minus t_bits t_wide t_lowest t_letters) s.heap.size)) _
  rw [hQ]
  have hA : ∀ q : Nat, s.heap.size ≤ q → va_A (w_Argument_become G qt qt_words t_words t_kind t_minus t_bits t_wide t_lowest t_letters) s.heap.size q := fun q h => Or.inr h
  obtain ⟨A, hAe⟩ : ∃ A, va_A (w_Argument_become G qt qt_words t_words t_kind t_minus t_bits t_wide t_lowest t_letters) s.heap.size = A := ⟨_, rfl⟩
  rw [hAe] at hA hD hAb hQ
  have hS : va_S A s.heap s.heap [] := va_S.rf
  have hl := lv_entry (([.ref qt, .ref (gK G a1), .int a2, .long a3] : List Value)) (n := 5) (Nat.le_of_ble_eq_true rfl)
  rw [lg_entry_eq]
  generalize (lg_sl (([.ref qt, .ref (gK G a1), .int a2, .long a3] : List Value)) ++ List.replicate (5 - (lg_sl (([.ref qt, .ref (gK G a1), .int a2, .long a3] : List Value))).length) Slot.unset).toArray = ls at hl ⊢
  have hl : lv_has ls 5 [(0, .ref qt), (1, .ref (gK G a1)), (2, .int a2), (3, .long a3)] := hl
  unfold f_Argument_become at hf
  refine lv_aload_n hx hb d_Argument_become_0 rfl (lv_at hl 0 rfl) ?_
  refine va_get (D := gD G) (ci := 0) (v := .ref qt_words) (C := R_Argument) (T := F_Argument) (N := 7) hx hb hg in_Argument hown hK hP 0 rfl rfl 0 (by decide) (hg _ m_86) (fun _ h9 => h9) rfl d_Argument_become_1 ?_
  refine lv_lconst (v := 0) hx hb d_Argument_become_4 (by decide) ?_
  obtain ⟨u_5, hu_5, hf⟩ := bd_ hf
  refine CALLv (va_runS (As := [.ref qt_words, .long (0 : Int64)]) (rest := []) ⟨hx, hb, hml, hown, hg⟩ (c_Arrays_fill l G K qt_words 8 t_words (0 : Int64) _ u_5  hu_5) (va_cwS 2 hg (gS m_87 m_88 m_89 m_90) rfl rfl rfl (by decide +kernel) ⟨Nat.le_of_ble_eq_true rfl, Nat.le_of_ble_eq_true rfl⟩) ⟨PC_b, PC_p hE hS hAb (hP.sub [1] rfl) (hD.sub [1] (by decide) rfl)⟩ rfl rfl hl.1 rfl (lv_room (Nat.le_of_ble_eq_true rfl)) d_Argument_become_5 ⟨Nat.zero_le _, Nat.zero_le _⟩) hP hD hS hA [1] rfl rfl rfl (fun H locs hP hD hS => ?_)
  have hP : va_P (gD G) vwCl (w_Argument_become G qt qt_words u_5 t_kind t_minus t_bits t_wide t_lowest t_letters) H := hP
  have hD : va_D A (w_Argument_become G qt qt_words u_5 t_kind t_minus t_bits t_wide t_lowest t_letters) := hD
  refine lv_aload_n hx hb d_Argument_become_8 rfl (lv_at hl 0 rfl) ?_
  refine va_get (D := gD G) (ci := 0) (v := .ref qt_words) (C := R_Argument) (T := F_Argument) (N := 7) hx hb hg in_Argument hown hK hP 0 rfl rfl 0 (by decide) (hg _ m_86) (fun _ h9 => h9) rfl d_Argument_become_9 ?_
  refine lv_iconst (v := 0) hx hb d_Argument_become_12 (by decide) ?_
  refine lv_lload_n hx hb d_Argument_become_13 rfl (lv_at hl 3 rfl) ?_
  obtain ⟨g_14, hf⟩ := gd_ hf
  refine va_last hx hb hK hP hD hS 1 2 rfl rfl (inB_in g_14) d_Argument_become_14 (fun H locs hP hD hS => ?_)
  have hP : va_P (gD G) vwCl (w_Argument_become G qt qt_words (vp_updL u_5 (0 : Int32).toNatClampNeg a3) t_kind t_minus t_bits t_wide t_lowest t_letters) H := hP
  have hD : va_D A (w_Argument_become G qt qt_words (vp_updL u_5 (0 : Int32).toNatClampNeg a3) t_kind t_minus t_bits t_wide t_lowest t_letters) := hD
  refine lv_aload_n hx hb d_Argument_become_15 rfl (lv_at hl 0 rfl) ?_
  refine lv_aload_n hx hb d_Argument_become_16 rfl (lv_at hl 1 rfl) ?_
  refine va_put (D := gD G) (ci := 0) (v := .ref (gK G a1)) (ty := .object "SpecifierDesk$Kind") (C := R_Argument) (T := F_Argument) (N := 7) hx hb hg in_Argument t_Argument to_Argument no_Argument hown hK hP hD hS 0 rfl rfl 1 (by decide) (hg _ m_91) (fun _ h9 => h9) rfl (by decide +kernel) rfl rfl (Nat.le_of_ble_eq_true rfl) d_Argument_become_17 (fun H locs hP hD hS => ?_)
  have hP : va_P (gD G) vwCl (w_Argument_become G qt qt_words (vp_updL u_5 (0 : Int32).toNatClampNeg a3) a1 t_minus t_bits t_wide t_lowest t_letters) H := hP
  have hD : va_D A (w_Argument_become G qt qt_words (vp_updL u_5 (0 : Int32).toNatClampNeg a3) a1 t_minus t_bits t_wide t_lowest t_letters) := hD
  refine lv_aload_n hx hb d_Argument_become_20 rfl (lv_at hl 0 rfl) ?_
  refine lv_iload_n hx hb d_Argument_become_21 rfl (lv_at hl 2 rfl) ?_
  refine va_put (D := gD G) (ci := 0) (v := .int a2) (ty := .boolean) (C := R_Argument) (T := F_Argument) (N := 7) hx hb hg in_Argument t_Argument to_Argument no_Argument hown hK hP hD hS 0 rfl rfl 2 (by decide) (hg _ m_92) (fun _ h9 => h9) rfl (by decide +kernel) (bl_n hb_a2) (bl_f hb_a2) (Nat.le_of_ble_eq_true rfl) d_Argument_become_22 (fun H locs hP hD hS => ?_)
  have hP : va_P (gD G) vwCl (w_Argument_become G qt qt_words (vp_updL u_5 (0 : Int32).toNatClampNeg a3) a1 a2 t_bits t_wide t_lowest t_letters) H := hP
  have hD : va_D A (w_Argument_become G qt qt_words (vp_updL u_5 (0 : Int32).toNatClampNeg a3) a1 a2 t_bits t_wide t_lowest t_letters) := hD
  refine lv_aload_n hx hb d_Argument_become_25 rfl (lv_at hl 0 rfl) ?_
  refine lv_lconst (v := 0) hx hb d_Argument_become_26 (by decide) ?_
  refine va_put (D := gD G) (ci := 0) (v := .long (0 : Int64)) (ty := .long) (C := R_Argument) (T := F_Argument) (N := 7) hx hb hg in_Argument t_Argument to_Argument no_Argument hown hK hP hD hS 0 rfl rfl 3 (by decide) (hg _ m_93) (fun _ h9 => h9) rfl (by decide +kernel) rfl rfl (Nat.le_of_ble_eq_true rfl) d_Argument_become_27 (fun H locs hP hD hS => ?_)
  have hP : va_P (gD G) vwCl (w_Argument_become G qt qt_words (vp_updL u_5 (0 : Int32).toNatClampNeg a3) a1 a2 (0 : Int64) t_wide t_lowest t_letters) H := hP
  have hD : va_D A (w_Argument_become G qt qt_words (vp_updL u_5 (0 : Int32).toNatClampNeg a3) a1 a2 (0 : Int64) t_wide t_lowest t_letters) := hD
  refine lv_aload_n hx hb d_Argument_become_30 rfl (lv_at hl 0 rfl) ?_
  refine lv_iconst (v := 0) hx hb d_Argument_become_31 (by decide) ?_
  refine va_put (D := gD G) (ci := 0) (v := .int (0 : Int32)) (ty := .int) (C := R_Argument) (T := F_Argument) (N := 7) hx hb hg in_Argument t_Argument to_Argument no_Argument hown hK hP hD hS 0 rfl rfl 4 (by decide) (hg _ m_94) (fun _ h9 => h9) rfl (by decide +kernel) rfl rfl (Nat.le_of_ble_eq_true rfl) d_Argument_become_32 (fun H locs hP hD hS => ?_)
  have hP : va_P (gD G) vwCl (w_Argument_become G qt qt_words (vp_updL u_5 (0 : Int32).toNatClampNeg a3) a1 a2 (0 : Int64) (0 : Int32) t_lowest t_letters) H := hP
  have hD : va_D A (w_Argument_become G qt qt_words (vp_updL u_5 (0 : Int32).toNatClampNeg a3) a1 a2 (0 : Int64) (0 : Int32) t_lowest t_letters) := hD
  refine lv_aload_n hx hb d_Argument_become_35 rfl (lv_at hl 0 rfl) ?_
  refine lv_iconst (v := 0) hx hb d_Argument_become_36 (by decide) ?_
  refine va_put (D := gD G) (ci := 0) (v := .int (0 : Int32)) (ty := .int) (C := R_Argument) (T := F_Argument) (N := 7) hx hb hg in_Argument t_Argument to_Argument no_Argument hown hK hP hD hS 0 rfl rfl 5 (by decide) (hg _ m_95) (fun _ h9 => h9) rfl (by decide +kernel) rfl rfl (Nat.le_of_ble_eq_true rfl) d_Argument_become_37 (fun H locs hP hD hS => ?_)
  have hP : va_P (gD G) vwCl (w_Argument_become G qt qt_words (vp_updL u_5 (0 : Int32).toNatClampNeg a3) a1 a2 (0 : Int64) (0 : Int32) (0 : Int32) t_letters) H := hP
  have hD : va_D A (w_Argument_become G qt qt_words (vp_updL u_5 (0 : Int32).toNatClampNeg a3) a1 a2 (0 : Int64) (0 : Int32) (0 : Int32) t_letters) := hD
  refine lv_aload_n hx hb d_Argument_become_40 rfl (lv_at hl 0 rfl) ?_
  refine lv_null hx hb d_Argument_become_41 ?_
  refine va_put (D := gD G) (ci := 0) (v := .null) (ty := .object "SpecifierDesk$Row") (C := R_Argument) (T := F_Argument) (N := 7) hx hb hg in_Argument t_Argument to_Argument no_Argument hown hK hP hD hS 0 rfl rfl 6 (by decide) (hg _ m_96) (fun _ h9 => h9) rfl (by decide +kernel) rfl rfl (Nat.le_of_ble_eq_true rfl) d_Argument_become_42 (fun H locs hP hD hS => ?_)
  have hP : va_P (gD G) vwCl (w_Argument_become G qt qt_words (vp_updL u_5 (0 : Int32).toNatClampNeg a3) a1 a2 (0 : Int64) (0 : Int32) (0 : Int32) none) H := hP
  have hD : va_D A (w_Argument_become G qt qt_words (vp_updL u_5 (0 : Int32).toNatClampNeg a3) a1 a2 (0 : Int64) (0 : Int32) (0 : Int32) none) := hD
  obtain rfl := Option.some.inj hf
  rw [← hQ]
  exact W.vret hx hb hr (fun t9 ht hW => ⟨⟨(), rfl, trivial, ⟨by rw [ht]; exact hP, hD⟩⟩, hS.F ht⟩) hS.2.2 d_Argument_become_45
theorem d_Argument_growBy_0 : decode cd_Argument_growBy 0 = .ok (.aload_n 0, 1) := by decide +kernel
theorem d_Argument_growBy_1 : decode cd_Argument_growBy 1 = .ok (.getfield 11, 3) := by decide +kernel
theorem d_Argument_growBy_4 : decode cd_Argument_growBy 4 = .ok (.bipush 7, 2) := by decide +kernel
theorem d_Argument_growBy_6 : decode cd_Argument_growBy 6 = .ok (.laload, 1) := by decide +kernel
theorem d_Argument_growBy_7 : decode cd_Argument_growBy 7 = .ok (.lconst 0, 1) := by decide +kernel
theorem d_Argument_growBy_8 : decode cd_Argument_growBy 8 = .ok (.lcmp, 1) := by decide +kernel
theorem d_Argument_growBy_9 : decode cd_Argument_growBy 9 = .ok (.ifCond .eq 5, 3) := by decide +kernel
theorem d_Argument_growBy_12 : decode cd_Argument_growBy 12 = .ok (.iconst 0, 1) := by decide +kernel
theorem d_Argument_growBy_13 : decode cd_Argument_growBy 13 = .ok (.ireturn, 1) := by decide +kernel
theorem d_Argument_growBy_14 : decode cd_Argument_growBy 14 = .ok (.bipush 7, 2) := by decide +kernel
theorem d_Argument_growBy_16 : decode cd_Argument_growBy 16 = .ok (.istore_n 3, 1) := by decide +kernel
theorem d_Argument_growBy_17 : decode cd_Argument_growBy 17 = .ok (.iload_n 3, 1) := by decide +kernel
theorem d_Argument_growBy_18 : decode cd_Argument_growBy 18 = .ok (.ifCond .le 23, 3) := by decide +kernel
theorem d_Argument_growBy_21 : decode cd_Argument_growBy 21 = .ok (.aload_n 0, 1) := by decide +kernel
theorem d_Argument_growBy_22 : decode cd_Argument_growBy 22 = .ok (.getfield 11, 3) := by decide +kernel
theorem d_Argument_growBy_25 : decode cd_Argument_growBy 25 = .ok (.iload_n 3, 1) := by decide +kernel
theorem d_Argument_growBy_26 : decode cd_Argument_growBy 26 = .ok (.aload_n 0, 1) := by decide +kernel
theorem d_Argument_growBy_27 : decode cd_Argument_growBy 27 = .ok (.getfield 11, 3) := by decide +kernel
theorem d_Argument_growBy_30 : decode cd_Argument_growBy 30 = .ok (.iload_n 3, 1) := by decide +kernel
theorem d_Argument_growBy_31 : decode cd_Argument_growBy 31 = .ok (.iconst 1, 1) := by decide +kernel
theorem d_Argument_growBy_32 : decode cd_Argument_growBy 32 = .ok (.isub, 1) := by decide +kernel
theorem d_Argument_growBy_33 : decode cd_Argument_growBy 33 = .ok (.laload, 1) := by decide +kernel
theorem d_Argument_growBy_34 : decode cd_Argument_growBy 34 = .ok (.lastore, 1) := by decide +kernel
theorem d_Argument_growBy_35 : decode cd_Argument_growBy 35 = .ok (.iinc 3 (-1), 3) := by decide +kernel
theorem d_Argument_growBy_38 : decode cd_Argument_growBy 38 = .ok (.goto (-21), 3) := by decide +kernel
theorem d_Argument_growBy_41 : decode cd_Argument_growBy 41 = .ok (.aload_n 0, 1) := by decide +kernel
theorem d_Argument_growBy_42 : decode cd_Argument_growBy 42 = .ok (.getfield 11, 3) := by decide +kernel
theorem d_Argument_growBy_45 : decode cd_Argument_growBy 45 = .ok (.iconst 0, 1) := by decide +kernel
theorem d_Argument_growBy_46 : decode cd_Argument_growBy 46 = .ok (.lload_n 1, 1) := by decide +kernel
theorem d_Argument_growBy_47 : decode cd_Argument_growBy 47 = .ok (.lastore, 1) := by decide +kernel
theorem d_Argument_growBy_48 : decode cd_Argument_growBy 48 = .ok (.iconst 1, 1) := by decide +kernel
theorem d_Argument_growBy_49 : decode cd_Argument_growBy 49 = .ok (.ireturn, 1) := by decide +kernel
def b_Argument_growBy_17 (a1 : Int64)  (rec_17 : (Int32 × (Nat → Int64)) → Option (Int32 × (Nat → Int64))) (z17 : Int32 × (Nat → Int64)) : Option (Int32 × (Nat → Int64)) :=
  (if z17.1 ≤ 0 then (if inB (0 : Int32) 8 = true then some ((1 : Int32), (vp_updL z17.2 (0 : Int32).toNatClampNeg a1)) else none) else (if inB (z17.1 - (1 : Int32)) 8 = true then (if inB z17.1 8 = true then rec_17 ((z17.1 + (-1)), (vp_updL z17.2 z17.1.toNatClampNeg (z17.2 (z17.1 - (1 : Int32)).toNatClampNeg))) else none) else none))
def f_Argument_growBy (K : Nat) (t_words : Nat → Int64) (a1 : Int64) : Option (Int32 × (Nat → Int64)) :=
  (if inB (7 : Int32) 8 = true then (if (lg_cmp (t_words (7 : Int32).toNatClampNeg) (0 : Int64)) = 0 then lp_ (b_Argument_growBy_17 a1 ) K ((7 : Int32), t_words) else some ((0 : Int32), t_words)) else none)
set_option maxHeartbeats 4000000 in
set_option maxRecDepth 100000 in
theorem c_Argument_growBy (l : Launch) (G : Gt) (K : Nat) (qt : Nat) (qt_words : Nat) (t_words : Nat → Int64) (t_kind : Nat) (t_minus : Int32) (t_bits : Int64) (t_wide : Int32) (t_lowest : Int32) (t_letters : Option Nat) (a1 : Int64) (sz : Nat) (res : Int32 × (Nat → Int64))  (hr_t_kind : t_kind < 8) (hf : f_Argument_growBy K t_words a1 = some res) : Met l y_Argument_growBy (.code y_Argument_growBy cd_Argument_growBy 4 (some .boolean) :: gw) { frames := 0, cells := 0, slots := 0, locals := 0 } (PC G ([.ref qt, .long a1] : List Value) sz (w_Argument_become G qt qt_words t_words t_kind t_minus t_bits t_wide t_lowest t_letters)) (QZ G res.1 (va_A (w_Argument_become G qt qt_words t_words t_kind t_minus t_bits t_wide t_lowest t_letters) sz) (w_Argument_become G qt qt_words res.2 t_kind t_minus t_bits t_wide t_lowest t_letters)) 0 0 (va_A (w_Argument_become G qt qt_words t_words t_kind t_minus t_bits t_wide t_lowest t_letters) sz) := by
  refine Met.ofW (cc := cd_Argument_growBy) (maxL := 4) (ret := (some .boolean)) (by decide) rfl ?_
  intro p e s m args below meth c s₁ B hml hv
  obtain ⟨rfl, hsz, hP, hE, hD0⟩ := hv
  have hx := B.exec
  have hb := B.bytes
  have hr := B.returns
  have hts := atoms_spec (ws := (.code y_Argument_growBy cd_Argument_growBy 4 (some .boolean) :: gw)) B.pre
  have hg : ∀ w ∈ gw, w.before _ s = true := fun w h => hts w (List.mem_cons_of_mem _ h)
  have hown : s.vm.findClass R_Argument = some m.cls := findClass_of_methodNamed B.named
  have hlocks := B.notSynchronized
  subst hsz
  have hK := hE.K
  have hD := hD0.self (sz := s.heap.size)
  have hAb := hE.ab hD0
  obtain ⟨Q, hQ⟩ : ∃ Q, MQ below (QZ G res.1 (va_A (w_Argument_become G qt qt_words t_words t_kind t_minus t_bits t_wide t_lowest t_letters) s.heap.size) (w_Argument_become G qt qt_words res.2 t_kind t_minus t_bits t_wide t_lowest t_letters)) ([.ref qt, .long a1] : List Value).toArray s 0 0 (va_A (w_Argument_become G qt qt_words t_words t_kind t_minus t_bits t_wide t_lowest t_letters) s.heap.size) = Q := ⟨_, rfl⟩
  show W p l e { frames := 0, cells := 0, slots := 0, locals := 0 } s m ([.ref qt, .long a1] : List Value).toArray below meth c s.heap [] 0 0 (MQ below (QZ G res.1 (va_A (w_Argument_become G qt qt_words t_words t_kind t_minus t_bits t_wide t_lowest t_letters) s.heap.size) (w_Argument_become G qt qt_words res.2 t_kind t_minus t_bits t_wide t_lowest t_letters)) ([.ref qt, .long a1] : List Value).toArray s 0 0 (va_A (w_Argument_become G qt qt_words t_words t_kind t_minus t_bits t_wide t_lowest t_letters) s.heap.size)) _
  rw [hQ]
  have hA : ∀ q : Nat, s.heap.size ≤ q → va_A (w_Argument_become G qt qt_words t_words t_kind t_minus t_bits t_wide t_lowest t_letters) s.heap.size q := fun q h => Or.inr h
  obtain ⟨A, hAe⟩ : ∃ A, va_A (w_Argument_become G qt qt_words t_words t_kind t_minus t_bits t_wide t_lowest t_letters) s.heap.size = A := ⟨_, rfl⟩
  rw [hAe] at hA hD hAb hQ
  have hS : va_S A s.heap s.heap [] := va_S.rf
  have hl := lv_entry (([.ref qt, .long a1] : List Value)) (n := 4) (Nat.le_of_ble_eq_true rfl)
  rw [lg_entry_eq]
  generalize (lg_sl (([.ref qt, .long a1] : List Value)) ++ List.replicate (4 - (lg_sl (([.ref qt, .long a1] : List Value))).length) Slot.unset).toArray = ls at hl ⊢
  have hl : lv_has ls 4 [(0, .ref qt), (1, .long a1)] := hl
  have W_17 : ∀   (n_17 : Nat) (z17 : Int32 × (Nat → Int64)) , lp_ (b_Argument_growBy_17 a1 ) n_17 z17 = some res → ∀ (H : Heap) (locs : List Loc) (ls : Array Slot), va_P (gD G) vwCl (w_Argument_become G qt qt_words z17.2 t_kind t_minus t_bits t_wide t_lowest t_letters) H → va_D A (w_Argument_become G qt qt_words z17.2 t_kind t_minus t_bits t_wide t_lowest t_letters) → va_S A s.heap H locs → lv_has ls 4 [(0, .ref qt), (1, .long a1), (3, .int z17.1)] → W p l e { frames := 0, cells := 0, slots := 0, locals := 0 } s m ([.ref qt, .long a1] : List Value).toArray below meth c H locs 0 0 Q (F0 m 17 ls []) := by
    intro  n_17
    induction n_17 with
    | zero =>
      intro z17  hf
      cases hf
    | succ n_17 ih_17 =>
      intro z17  hf H locs ls hP hD hS hl
      have hf : b_Argument_growBy_17 a1  (lp_ (b_Argument_growBy_17 a1 ) n_17) z17 = some res := hf
      generalize lp_ (b_Argument_growBy_17 a1 ) n_17 = rec_17 at hf ih_17
      unfold b_Argument_growBy_17 at hf
      refine lv_iload_n hx hb d_Argument_growBy_17 rfl (lv_at hl 2 rfl) ?_
      refine lv_if_le (tgt := 41) hx hb d_Argument_growBy_18 (by decide) (fun c_18 => ?_) (fun c_18 => ?_)
      · have hf := ip_ c_18 hf
        refine lv_aload_n hx hb d_Argument_growBy_41 rfl (lv_at hl 0 rfl) ?_
        refine va_get (D := gD G) (ci := 0) (v := .ref qt_words) (C := R_Argument) (T := F_Argument) (N := 7) hx hb hg in_Argument hown hK hP 0 rfl rfl 0 (by decide) (hg _ m_86) (fun _ h9 => h9) rfl d_Argument_growBy_42 ?_
        refine lv_iconst (v := 0) hx hb d_Argument_growBy_45 (by decide) ?_
        refine lv_lload_n hx hb d_Argument_growBy_46 rfl (lv_at hl 1 rfl) ?_
        obtain ⟨g_47, hf⟩ := gd_ hf
        refine va_last hx hb hK hP hD hS 1 2 rfl rfl (inB_in g_47) d_Argument_growBy_47 (fun H locs hP hD hS => ?_)
        have hP : va_P (gD G) vwCl (w_Argument_become G qt qt_words (vp_updL z17.2 (0 : Int32).toNatClampNeg a1) t_kind t_minus t_bits t_wide t_lowest t_letters) H := hP
        have hD : va_D A (w_Argument_become G qt qt_words (vp_updL z17.2 (0 : Int32).toNatClampNeg a1) t_kind t_minus t_bits t_wide t_lowest t_letters) := hD
        refine lv_iconst (v := 1) hx hb d_Argument_growBy_48 (by decide) ?_
        obtain rfl := Option.some.inj hf
        rw [← hQ]
        exact W.zret (v := (1 : Int32)) hx hb hr (bl_n bl_1) (fun t9 ht hW => ⟨⟨(1 : Int32), (), rfl, ⟨rfl, bl_1⟩, ⟨by rw [ht]; exact hP, hD⟩⟩, hS.F ht⟩) hS.2.2 d_Argument_growBy_49
      · have hf := in_ c_18 hf
        refine lv_aload_n hx hb d_Argument_growBy_21 rfl (lv_at hl 0 rfl) ?_
        refine va_get (D := gD G) (ci := 0) (v := .ref qt_words) (C := R_Argument) (T := F_Argument) (N := 7) hx hb hg in_Argument hown hK hP 0 rfl rfl 0 (by decide) (hg _ m_86) (fun _ h9 => h9) rfl d_Argument_growBy_22 ?_
        refine lv_iload_n hx hb d_Argument_growBy_25 rfl (lv_at hl 2 rfl) ?_
        refine lv_aload_n hx hb d_Argument_growBy_26 rfl (lv_at hl 0 rfl) ?_
        refine va_get (D := gD G) (ci := 0) (v := .ref qt_words) (C := R_Argument) (T := F_Argument) (N := 7) hx hb hg in_Argument hown hK hP 0 rfl rfl 0 (by decide) (hg _ m_86) (fun _ h9 => h9) rfl d_Argument_growBy_27 ?_
        refine lv_iload_n hx hb d_Argument_growBy_30 rfl (lv_at hl 2 rfl) ?_
        refine lv_iconst (v := 1) hx hb d_Argument_growBy_31 (by decide) ?_
        refine lv_isub hx hb d_Argument_growBy_32 ?_
        obtain ⟨g_33, hf⟩ := gd_ hf
        refine va_lald hx hb hK hP 1 2 rfl rfl (inB_in g_33) d_Argument_growBy_33 ?_
        obtain ⟨g_34, hf⟩ := gd_ hf
        refine va_last hx hb hK hP hD hS 1 2 rfl rfl (inB_in g_34) d_Argument_growBy_34 (fun H locs hP hD hS => ?_)
        have hP : va_P (gD G) vwCl (w_Argument_become G qt qt_words (vp_updL z17.2 z17.1.toNatClampNeg (z17.2 (z17.1 - (1 : Int32)).toNatClampNeg)) t_kind t_minus t_bits t_wide t_lowest t_letters) H := hP
        have hD : va_D A (w_Argument_become G qt qt_words (vp_updL z17.2 z17.1.toNatClampNeg (z17.2 (z17.1 - (1 : Int32)).toNatClampNeg)) t_kind t_minus t_bits t_wide t_lowest t_letters) := hD
        refine lv_iinc (v := (z17.1 + (-1))) (lv' := [(3, .int (z17.1 + (-1))), (0, .ref qt), (1, .long a1)]) hx hb d_Argument_growBy_35 hl (k := 2) rfl rfl (by decide) rfl (fun ls hl => ?_)
        refine lv_goto (tgt := 17) hx hb d_Argument_growBy_38 (by decide) ?_
        exact ih_17 ((z17.1 + (-1)), (vp_updL z17.2 z17.1.toNatClampNeg (z17.2 (z17.1 - (1 : Int32)).toNatClampNeg)))  hf _ _ _ hP hD hS (lv_sub hl [1, 2, 0] rfl)
  unfold f_Argument_growBy at hf
  refine lv_aload_n hx hb d_Argument_growBy_0 rfl (lv_at hl 0 rfl) ?_
  refine va_get (D := gD G) (ci := 0) (v := .ref qt_words) (C := R_Argument) (T := F_Argument) (N := 7) hx hb hg in_Argument hown hK hP 0 rfl rfl 0 (by decide) (hg _ m_86) (fun _ h9 => h9) rfl d_Argument_growBy_1 ?_
  refine lv_bipush (v := 7) hx hb d_Argument_growBy_4 (by decide) ?_
  obtain ⟨g_6, hf⟩ := gd_ hf
  refine va_lald hx hb hK hP 1 2 rfl rfl (inB_in g_6) d_Argument_growBy_6 ?_
  refine lv_lconst (v := 0) hx hb d_Argument_growBy_7 (by decide) ?_
  refine W.lcmp hx hb d_Argument_growBy_8 ?_
  refine lv_if_eq (tgt := 14) hx hb d_Argument_growBy_9 (by decide) (fun c_9 => ?_) (fun c_9 => ?_)
  · have hf := ip_ c_9 hf
    refine lv_bipush (v := 7) hx hb d_Argument_growBy_14 (by decide) ?_
    refine lv_istore_n (lv' := [(3, .int (7 : Int32)), (0, .ref qt), (1, .long a1)]) hx hb d_Argument_growBy_16 rfl hl (by decide) rfl (fun ls hl => ?_)
    exact W_17   K ((7 : Int32), t_words)  hf _ _ _ hP hD hS (lv_sub hl [1, 2, 0] rfl)
  · have hf := in_ c_9 hf
    refine lv_iconst (v := 0) hx hb d_Argument_growBy_12 (by decide) ?_
    obtain rfl := Option.some.inj hf
    rw [← hQ]
    exact W.zret (v := (0 : Int32)) hx hb hr (bl_n bl_0) (fun t9 ht hW => ⟨⟨(0 : Int32), (), rfl, ⟨rfl, bl_0⟩, ⟨by rw [ht]; exact hP, hD⟩⟩, hS.F ht⟩) hS.2.2 d_Argument_growBy_13
theorem d_Argument_isSizeZero_0 : decode cd_Argument_isSizeZero 0 = .ok (.iconst 0, 1) := by decide +kernel
theorem d_Argument_isSizeZero_1 : decode cd_Argument_isSizeZero 1 = .ok (.istore_n 1, 1) := by decide +kernel
theorem d_Argument_isSizeZero_2 : decode cd_Argument_isSizeZero 2 = .ok (.iload_n 1, 1) := by decide +kernel
theorem d_Argument_isSizeZero_3 : decode cd_Argument_isSizeZero 3 = .ok (.bipush 8, 2) := by decide +kernel
theorem d_Argument_isSizeZero_5 : decode cd_Argument_isSizeZero 5 = .ok (.if_icmp .ge 22, 3) := by decide +kernel
theorem d_Argument_isSizeZero_8 : decode cd_Argument_isSizeZero 8 = .ok (.aload_n 0, 1) := by decide +kernel
theorem d_Argument_isSizeZero_9 : decode cd_Argument_isSizeZero 9 = .ok (.getfield 11, 3) := by decide +kernel
theorem d_Argument_isSizeZero_12 : decode cd_Argument_isSizeZero 12 = .ok (.iload_n 1, 1) := by decide +kernel
theorem d_Argument_isSizeZero_13 : decode cd_Argument_isSizeZero 13 = .ok (.laload, 1) := by decide +kernel
theorem d_Argument_isSizeZero_14 : decode cd_Argument_isSizeZero 14 = .ok (.lconst 0, 1) := by decide +kernel
theorem d_Argument_isSizeZero_15 : decode cd_Argument_isSizeZero 15 = .ok (.lcmp, 1) := by decide +kernel
theorem d_Argument_isSizeZero_16 : decode cd_Argument_isSizeZero 16 = .ok (.ifCond .eq 5, 3) := by decide +kernel
theorem d_Argument_isSizeZero_19 : decode cd_Argument_isSizeZero 19 = .ok (.iconst 0, 1) := by decide +kernel
theorem d_Argument_isSizeZero_20 : decode cd_Argument_isSizeZero 20 = .ok (.ireturn, 1) := by decide +kernel
theorem d_Argument_isSizeZero_21 : decode cd_Argument_isSizeZero 21 = .ok (.iinc 1 1, 3) := by decide +kernel
theorem d_Argument_isSizeZero_24 : decode cd_Argument_isSizeZero 24 = .ok (.goto (-22), 3) := by decide +kernel
theorem d_Argument_isSizeZero_27 : decode cd_Argument_isSizeZero 27 = .ok (.iconst 1, 1) := by decide +kernel
theorem d_Argument_isSizeZero_28 : decode cd_Argument_isSizeZero 28 = .ok (.ireturn, 1) := by decide +kernel
def b_Argument_isSizeZero_2 (t_words : Nat → Int64)  (rec_2 : Int32 → Option Int32) (z2 : Int32) : Option Int32 :=
  (if (8 : Int32) ≤ z2 then some (1 : Int32) else (if inB z2 8 = true then (if (lg_cmp (t_words z2.toNatClampNeg) (0 : Int64)) = 0 then rec_2 (z2 + 1) else some (0 : Int32)) else none))
def f_Argument_isSizeZero (K : Nat) (t_words : Nat → Int64) : Option Int32 :=
  lp_ (b_Argument_isSizeZero_2 t_words ) K (0 : Int32)
set_option maxHeartbeats 4000000 in
set_option maxRecDepth 100000 in
theorem c_Argument_isSizeZero (l : Launch) (G : Gt) (K : Nat) (qt : Nat) (qt_words : Nat) (t_words : Nat → Int64) (t_kind : Nat) (t_minus : Int32) (t_bits : Int64) (t_wide : Int32) (t_lowest : Int32) (t_letters : Option Nat) (sz : Nat) (res : Int32)  (hr_t_kind : t_kind < 8) (hf : f_Argument_isSizeZero K t_words = some res) : Met l y_Argument_isSizeZero (.code y_Argument_isSizeZero cd_Argument_isSizeZero 2 (some .boolean) :: gw) { frames := 0, cells := 0, slots := 0, locals := 0 } (PC G ([.ref qt] : List Value) sz (w_Argument_become G qt qt_words t_words t_kind t_minus t_bits t_wide t_lowest t_letters)) (QZ G res (va_A (w_Argument_become G qt qt_words t_words t_kind t_minus t_bits t_wide t_lowest t_letters) sz) (w_Argument_become G qt qt_words t_words t_kind t_minus t_bits t_wide t_lowest t_letters)) 0 0 (va_A (w_Argument_become G qt qt_words t_words t_kind t_minus t_bits t_wide t_lowest t_letters) sz) := by
  refine Met.ofW (cc := cd_Argument_isSizeZero) (maxL := 2) (ret := (some .boolean)) (by decide) rfl ?_
  intro p e s m args below meth c s₁ B hml hv
  obtain ⟨rfl, hsz, hP, hE, hD0⟩ := hv
  have hx := B.exec
  have hb := B.bytes
  have hr := B.returns
  have hts := atoms_spec (ws := (.code y_Argument_isSizeZero cd_Argument_isSizeZero 2 (some .boolean) :: gw)) B.pre
  have hg : ∀ w ∈ gw, w.before _ s = true := fun w h => hts w (List.mem_cons_of_mem _ h)
  have hown : s.vm.findClass R_Argument = some m.cls := findClass_of_methodNamed B.named
  have hlocks := B.notSynchronized
  subst hsz
  have hK := hE.K
  have hD := hD0.self (sz := s.heap.size)
  have hAb := hE.ab hD0
  obtain ⟨Q, hQ⟩ : ∃ Q, MQ below (QZ G res (va_A (w_Argument_become G qt qt_words t_words t_kind t_minus t_bits t_wide t_lowest t_letters) s.heap.size) (w_Argument_become G qt qt_words t_words t_kind t_minus t_bits t_wide t_lowest t_letters)) ([.ref qt] : List Value).toArray s 0 0 (va_A (w_Argument_become G qt qt_words t_words t_kind t_minus t_bits t_wide t_lowest t_letters) s.heap.size) = Q := ⟨_, rfl⟩
  show W p l e { frames := 0, cells := 0, slots := 0, locals := 0 } s m ([.ref qt] : List Value).toArray below meth c s.heap [] 0 0 (MQ below (QZ G res (va_A (w_Argument_become G qt qt_words t_words t_kind t_minus t_bits t_wide t_lowest t_letters) s.heap.size) (w_Argument_become G qt qt_words t_words t_kind t_minus t_bits t_wide t_lowest t_letters)) ([.ref qt] : List Value).toArray s 0 0 (va_A (w_Argument_become G qt qt_words t_words t_kind t_minus t_bits t_wide t_lowest t_letters) s.heap.size)) _
  rw [hQ]
  have hA : ∀ q : Nat, s.heap.size ≤ q → va_A (w_Argument_become G qt qt_words t_words t_kind t_minus t_bits t_wide t_lowest t_letters) s.heap.size q := fun q h => Or.inr h
  obtain ⟨A, hAe⟩ : ∃ A, va_A (w_Argument_become G qt qt_words t_words t_kind t_minus t_bits t_wide t_lowest t_letters) s.heap.size = A := ⟨_, rfl⟩
  rw [hAe] at hA hD hAb hQ
  have hS : va_S A s.heap s.heap [] := va_S.rf
  have hl := lv_entry (([.ref qt] : List Value)) (n := 2) (Nat.le_of_ble_eq_true rfl)
  rw [lg_entry_eq]
  generalize (lg_sl (([.ref qt] : List Value)) ++ List.replicate (2 - (lg_sl (([.ref qt] : List Value))).length) Slot.unset).toArray = ls at hl ⊢
  have hl : lv_has ls 2 [(0, .ref qt)] := hl
  have W_2 : ∀   (n_2 : Nat) (z2 : Int32) , lp_ (b_Argument_isSizeZero_2 t_words ) n_2 z2 = some res → ∀ (H : Heap) (locs : List Loc) (ls : Array Slot), va_P (gD G) vwCl (w_Argument_become G qt qt_words t_words t_kind t_minus t_bits t_wide t_lowest t_letters) H → va_D A (w_Argument_become G qt qt_words t_words t_kind t_minus t_bits t_wide t_lowest t_letters) → va_S A s.heap H locs → lv_has ls 2 [(0, .ref qt), (1, .int z2)] → W p l e { frames := 0, cells := 0, slots := 0, locals := 0 } s m ([.ref qt] : List Value).toArray below meth c H locs 0 0 Q (F0 m 2 ls []) := by
    intro  n_2
    induction n_2 with
    | zero =>
      intro z2  hf
      cases hf
    | succ n_2 ih_2 =>
      intro z2  hf H locs ls hP hD hS hl
      have hf : b_Argument_isSizeZero_2 t_words  (lp_ (b_Argument_isSizeZero_2 t_words ) n_2) z2 = some res := hf
      generalize lp_ (b_Argument_isSizeZero_2 t_words ) n_2 = rec_2 at hf ih_2
      unfold b_Argument_isSizeZero_2 at hf
      refine lv_iload_n hx hb d_Argument_isSizeZero_2 rfl (lv_at hl 1 rfl) ?_
      refine lv_bipush (v := 8) hx hb d_Argument_isSizeZero_3 (by decide) ?_
      refine lv_icmp_ge (tgt := 27) hx hb d_Argument_isSizeZero_5 (by decide) (fun c_5 => ?_) (fun c_5 => ?_)
      · have hf := ip_ c_5 hf
        refine lv_iconst (v := 1) hx hb d_Argument_isSizeZero_27 (by decide) ?_
        obtain rfl := Option.some.inj hf
        rw [← hQ]
        exact W.zret (v := (1 : Int32)) hx hb hr (bl_n bl_1) (fun t9 ht hW => ⟨⟨(1 : Int32), (), rfl, ⟨rfl, bl_1⟩, ⟨by rw [ht]; exact hP, hD⟩⟩, hS.F ht⟩) hS.2.2 d_Argument_isSizeZero_28
      · have hf := in_ c_5 hf
        refine lv_aload_n hx hb d_Argument_isSizeZero_8 rfl (lv_at hl 0 rfl) ?_
        refine va_get (D := gD G) (ci := 0) (v := .ref qt_words) (C := R_Argument) (T := F_Argument) (N := 7) hx hb hg in_Argument hown hK hP 0 rfl rfl 0 (by decide) (hg _ m_86) (fun _ h9 => h9) rfl d_Argument_isSizeZero_9 ?_
        refine lv_iload_n hx hb d_Argument_isSizeZero_12 rfl (lv_at hl 1 rfl) ?_
        obtain ⟨g_13, hf⟩ := gd_ hf
        refine va_lald hx hb hK hP 1 2 rfl rfl (inB_in g_13) d_Argument_isSizeZero_13 ?_
        refine lv_lconst (v := 0) hx hb d_Argument_isSizeZero_14 (by decide) ?_
        refine W.lcmp hx hb d_Argument_isSizeZero_15 ?_
        refine lv_if_eq (tgt := 21) hx hb d_Argument_isSizeZero_16 (by decide) (fun c_16 => ?_) (fun c_16 => ?_)
        · have hf := ip_ c_16 hf
          refine lv_iinc (v := (z2 + 1)) (lv' := [(1, .int (z2 + 1)), (0, .ref qt)]) hx hb d_Argument_isSizeZero_21 hl (k := 1) rfl rfl (by decide) rfl (fun ls hl => ?_)
          refine lv_goto (tgt := 2) hx hb d_Argument_isSizeZero_24 (by decide) ?_
          exact ih_2 (z2 + 1)  hf _ _ _ hP hD hS (lv_sub hl [1, 0] rfl)
        · have hf := in_ c_16 hf
          refine lv_iconst (v := 0) hx hb d_Argument_isSizeZero_19 (by decide) ?_
          obtain rfl := Option.some.inj hf
          rw [← hQ]
          exact W.zret (v := (0 : Int32)) hx hb hr (bl_n bl_0) (fun t9 ht hW => ⟨⟨(0 : Int32), (), rfl, ⟨rfl, bl_0⟩, ⟨by rw [ht]; exact hP, hD⟩⟩, hS.F ht⟩) hS.2.2 d_Argument_isSizeZero_20
  unfold f_Argument_isSizeZero at hf
  refine lv_iconst (v := 0) hx hb d_Argument_isSizeZero_0 (by decide) ?_
  refine lv_istore_n (lv' := [(1, .int (0 : Int32)), (0, .ref qt)]) hx hb d_Argument_isSizeZero_1 rfl hl (by decide) rfl (fun ls hl => ?_)
  exact W_2   K (0 : Int32)  hf _ _ _ hP hD hS (lv_sub hl [1, 0] rfl)
theorem d_Argument_isBelowZero_0 : decode cd_Argument_isBelowZero 0 = .ok (.aload_n 0, 1) := by decide +kernel
theorem d_Argument_isBelowZero_1 : decode cd_Argument_isBelowZero 1 = .ok (.getfield 30, 3) := by decide +kernel
theorem d_Argument_isBelowZero_4 : decode cd_Argument_isBelowZero 4 = .ok (.ifCond .eq 24, 3) := by decide +kernel
theorem d_Argument_isBelowZero_7 : decode cd_Argument_isBelowZero 7 = .ok (.aload_n 0, 1) := by decide +kernel
theorem d_Argument_isBelowZero_8 : decode cd_Argument_isBelowZero 8 = .ok (.getfield 21, 3) := by decide +kernel
theorem d_Argument_isBelowZero_11 : decode cd_Argument_isBelowZero 11 = .ok (.getstatic 49, 3) := by decide +kernel
theorem d_Argument_isBelowZero_14 : decode cd_Argument_isBelowZero 14 = .ok (.if_acmp .eq 10, 3) := by decide +kernel
theorem d_Argument_isBelowZero_17 : decode cd_Argument_isBelowZero 17 = .ok (.aload_n 0, 1) := by decide +kernel
theorem d_Argument_isBelowZero_18 : decode cd_Argument_isBelowZero 18 = .ok (.invokevirtual 52, 3) := by decide +kernel
theorem d_Argument_isBelowZero_21 : decode cd_Argument_isBelowZero 21 = .ok (.ifCond .ne 7, 3) := by decide +kernel
theorem d_Argument_isBelowZero_24 : decode cd_Argument_isBelowZero 24 = .ok (.iconst 1, 1) := by decide +kernel
theorem d_Argument_isBelowZero_25 : decode cd_Argument_isBelowZero 25 = .ok (.goto 4, 3) := by decide +kernel
theorem d_Argument_isBelowZero_28 : decode cd_Argument_isBelowZero 28 = .ok (.iconst 0, 1) := by decide +kernel
theorem d_Argument_isBelowZero_29 : decode cd_Argument_isBelowZero 29 = .ok (.ireturn, 1) := by decide +kernel
theorem m_97 : Cond.fieldLink R_Argument 49 "SpecifierDesk$Kind" "FRACTION" "LSpecifierDesk$Kind;" ∈ gw := gm (i := 666) (by decide +kernel) (by decide +kernel)
theorem m_98 : Cond.methodLink R_Argument 52 y_Argument_isSizeZero ∈ gw := gm (i := 732) (by decide +kernel) (by decide +kernel)
theorem m_99 : Cond.instanceMethod y_Argument_isSizeZero ∈ gw := gm (i := 734) (by decide +kernel) (by decide +kernel)
theorem m_100 : Cond.selects R_Argument y_Argument_isSizeZero y_Argument_isSizeZero ∈ gw := gm (i := 27) (by decide +kernel) (by decide +kernel)
theorem m_101 : Cond.initialized R_Argument ∈ gw := gm (i := 89) (by decide +kernel) (by decide +kernel)
set_option maxRecDepth 100000 in
theorem m_102 : Cond.code y_Argument_isSizeZero cd_Argument_isSizeZero 2 (some .boolean) ∈ gw := gm (i := 735) rfl rfl
def f_Argument_isBelowZero (K : Nat) (t_words : Nat → Int64) (t_kind : Nat) (t_minus : Int32) : Option Int32 :=
  (if t_minus = 0 then some (0 : Int32) else (if t_kind = 6 then some (1 : Int32) else ((f_Argument_isSizeZero K t_words).bind fun u_18 => (if u_18 = 0 then some (1 : Int32) else some (0 : Int32)))))
set_option maxHeartbeats 4000000 in
set_option maxRecDepth 100000 in
theorem c_Argument_isBelowZero (l : Launch) (G : Gt) (K : Nat) (qt : Nat) (qt_words : Nat) (t_words : Nat → Int64) (t_kind : Nat) (t_minus : Int32) (t_bits : Int64) (t_wide : Int32) (t_lowest : Int32) (t_letters : Option Nat) (sz : Nat) (res : Int32)  (hr_t_kind : t_kind < 8) (hf : f_Argument_isBelowZero K t_words t_kind t_minus = some res) : Met l y_Argument_isBelowZero (.code y_Argument_isBelowZero cd_Argument_isBelowZero 1 (some .boolean) :: gw) { frames := 1, cells := 0, slots := 0, locals := 40 } (PC G ([.ref qt] : List Value) sz (w_Argument_become G qt qt_words t_words t_kind t_minus t_bits t_wide t_lowest t_letters)) (QZ G res (va_A (w_Argument_become G qt qt_words t_words t_kind t_minus t_bits t_wide t_lowest t_letters) sz) (w_Argument_become G qt qt_words t_words t_kind t_minus t_bits t_wide t_lowest t_letters)) 0 0 (va_A (w_Argument_become G qt qt_words t_words t_kind t_minus t_bits t_wide t_lowest t_letters) sz) := by
  refine Met.ofW (cc := cd_Argument_isBelowZero) (maxL := 1) (ret := (some .boolean)) (by decide) rfl ?_
  intro p e s m args below meth c s₁ B hml hv
  obtain ⟨rfl, hsz, hP, hE, hD0⟩ := hv
  have hx := B.exec
  have hb := B.bytes
  have hr := B.returns
  have hts := atoms_spec (ws := (.code y_Argument_isBelowZero cd_Argument_isBelowZero 1 (some .boolean) :: gw)) B.pre
  have hg : ∀ w ∈ gw, w.before _ s = true := fun w h => hts w (List.mem_cons_of_mem _ h)
  have hown : s.vm.findClass R_Argument = some m.cls := findClass_of_methodNamed B.named
  have hlocks := B.notSynchronized
  subst hsz
  have hK := hE.K
  have hD := hD0.self (sz := s.heap.size)
  have hAb := hE.ab hD0
  obtain ⟨Q, hQ⟩ : ∃ Q, MQ below (QZ G res (va_A (w_Argument_become G qt qt_words t_words t_kind t_minus t_bits t_wide t_lowest t_letters) s.heap.size) (w_Argument_become G qt qt_words t_words t_kind t_minus t_bits t_wide t_lowest t_letters)) ([.ref qt] : List Value).toArray s 0 0 (va_A (w_Argument_become G qt qt_words t_words t_kind t_minus t_bits t_wide t_lowest t_letters) s.heap.size) = Q := ⟨_, rfl⟩
  show W p l e { frames := 1, cells := 0, slots := 0, locals := 40 } s m ([.ref qt] : List Value).toArray below meth c s.heap [] 0 0 (MQ below (QZ G res (va_A (w_Argument_become G qt qt_words t_words t_kind t_minus t_bits t_wide t_lowest t_letters) s.heap.size) (w_Argument_become G qt qt_words t_words t_kind t_minus t_bits t_wide t_lowest t_letters)) ([.ref qt] : List Value).toArray s 0 0 (va_A (w_Argument_become G qt qt_words t_words t_kind t_minus t_bits t_wide t_lowest t_letters) s.heap.size)) _
  rw [hQ]
  have hA : ∀ q : Nat, s.heap.size ≤ q → va_A (w_Argument_become G qt qt_words t_words t_kind t_minus t_bits t_wide t_lowest t_letters) s.heap.size q := fun q h => Or.inr h
  obtain ⟨A, hAe⟩ : ∃ A, va_A (w_Argument_become G qt qt_words t_words t_kind t_minus t_bits t_wide t_lowest t_letters) s.heap.size = A := ⟨_, rfl⟩
  rw [hAe] at hA hD hAb hQ
  have hS : va_S A s.heap s.heap [] := va_S.rf
  have hl := lv_entry (([.ref qt] : List Value)) (n := 1) (Nat.le_of_ble_eq_true rfl)
  rw [lg_entry_eq]
  generalize (lg_sl (([.ref qt] : List Value)) ++ List.replicate (1 - (lg_sl (([.ref qt] : List Value))).length) Slot.unset).toArray = ls at hl ⊢
  have hl : lv_has ls 1 [(0, .ref qt)] := hl
  unfold f_Argument_isBelowZero at hf
  refine lv_aload_n hx hb d_Argument_isBelowZero_0 rfl (lv_at hl 0 rfl) ?_
  refine va_get (D := gD G) (ci := 0) (v := .int t_minus) (C := R_Argument) (T := F_Argument) (N := 7) hx hb hg in_Argument hown hK hP 0 rfl rfl 2 (by decide) (hg _ m_92) (fun _ h9 => h9) rfl d_Argument_isBelowZero_1 ?_
  refine lv_if_eq (tgt := 28) hx hb d_Argument_isBelowZero_4 (by decide) (fun c_4 => ?_) (fun c_4 => ?_)
  · have hf := ip_ c_4 hf
    refine lv_iconst (v := 0) hx hb d_Argument_isBelowZero_28 (by decide) ?_
    obtain rfl := Option.some.inj hf
    rw [← hQ]
    exact W.zret (v := (0 : Int32)) hx hb hr (bl_n bl_0) (fun t9 ht hW => ⟨⟨(0 : Int32), (), rfl, ⟨rfl, bl_0⟩, ⟨by rw [ht]; exact hP, hD⟩⟩, hS.F ht⟩) hS.2.2 d_Argument_isBelowZero_29
  · have hf := in_ c_4 hf
    refine lv_aload_n hx hb d_Argument_isBelowZero_7 rfl (lv_at hl 0 rfl) ?_
    refine va_get (D := gD G) (ci := 0) (v := .ref (gK G t_kind)) (C := R_Argument) (T := F_Argument) (N := 7) hx hb hg in_Argument hown hK hP 0 rfl rfl 1 (by decide) (hg _ m_91) (fun _ h9 => h9) rfl d_Argument_isBelowZero_8 ?_
    refine va_gets hx hb (hE.kz hAb 6 (by decide)) hS hown (hg _ m_97) (fun _ h9 => h9) d_Argument_isBelowZero_11 ?_
    refine ac_eq hE hr_t_kind (by decide) (tgt := 24) hx hb d_Argument_isBelowZero_14 (by decide) (fun c_14 => ?_) (fun c_14 => ?_)
    · have hf := ip_ c_14 hf
      refine lv_iconst (v := 1) hx hb d_Argument_isBelowZero_24 (by decide) ?_
      refine lv_goto (tgt := 29) hx hb d_Argument_isBelowZero_25 (by decide) ?_
      obtain rfl := Option.some.inj hf
      rw [← hQ]
      exact W.zret (v := (1 : Int32)) hx hb hr (bl_n bl_1) (fun t9 ht hW => ⟨⟨(1 : Int32), (), rfl, ⟨rfl, bl_1⟩, ⟨by rw [ht]; exact hP, hD⟩⟩, hS.F ht⟩) hS.2.2 d_Argument_isBelowZero_29
    · have hf := in_ c_14 hf
      refine lv_aload_n hx hb d_Argument_isBelowZero_17 rfl (lv_at hl 0 rfl) ?_
      obtain ⟨u_18, hu_18, hf⟩ := bd_ hf
      refine CALLWz (va_runV (As := []) (rest := []) ⟨hx, hb, hml, hown, hg⟩ (c_Argument_isSizeZero l G K qt qt_words t_words t_kind t_minus t_bits t_wide t_lowest t_letters _ u_18 hr_t_kind hu_18) (cwV 0 hg (gV m_98 m_99 m_100 m_101 m_102) rfl rfl rfl (by decide +kernel) ⟨Nat.le_of_ble_eq_true rfl, Nat.le_of_ble_eq_true rfl⟩) ⟨PC_b, va_recv hK hP (ci := 0) (q0 := 0) rfl rfl, PC_p hE hS hAb hP hD⟩ rfl rfl hl.1 rfl (lv_room (Nat.le_of_ble_eq_true rfl)) d_Argument_isBelowZero_18 ⟨Nat.zero_le _, Nat.zero_le _⟩) hP hD hS hA (fun bu_18 H locs hP hD hS => ?_)
      have hP : va_P (gD G) vwCl (w_Argument_become G qt qt_words t_words t_kind t_minus t_bits t_wide t_lowest t_letters) H := hP
      have hD : va_D A (w_Argument_become G qt qt_words t_words t_kind t_minus t_bits t_wide t_lowest t_letters) := hD
      refine lv_if_ne (tgt := 28) hx hb d_Argument_isBelowZero_21 (by decide) (fun c_21 => ?_) (fun c_21 => ?_)
      · have hf := in_ c_21 hf
        refine lv_iconst (v := 0) hx hb d_Argument_isBelowZero_28 (by decide) ?_
        obtain rfl := Option.some.inj hf
        rw [← hQ]
        exact W.zret (v := (0 : Int32)) hx hb hr (bl_n bl_0) (fun t9 ht hW => ⟨⟨(0 : Int32), (), rfl, ⟨rfl, bl_0⟩, ⟨by rw [ht]; exact hP, hD⟩⟩, hS.F ht⟩) hS.2.2 d_Argument_isBelowZero_29
      · have hf := ip_ c_21 hf
        refine lv_iconst (v := 1) hx hb d_Argument_isBelowZero_24 (by decide) ?_
        refine lv_goto (tgt := 29) hx hb d_Argument_isBelowZero_25 (by decide) ?_
        obtain rfl := Option.some.inj hf
        rw [← hQ]
        exact W.zret (v := (1 : Int32)) hx hb hr (bl_n bl_1) (fun t9 ht hW => ⟨⟨(1 : Int32), (), rfl, ⟨rfl, bl_1⟩, ⟨by rw [ht]; exact hP, hD⟩⟩, hS.F ht⟩) hS.2.2 d_Argument_isBelowZero_29
theorem d_Argument_isCharacterNumber_0 : decode cd_Argument_isCharacterNumber 0 = .ok (.aload_n 0, 1) := by decide +kernel
theorem d_Argument_isCharacterNumber_1 : decode cd_Argument_isCharacterNumber 1 = .ok (.getfield 30, 3) := by decide +kernel
theorem d_Argument_isCharacterNumber_4 : decode cd_Argument_isCharacterNumber 4 = .ok (.ifCond .ne 31, 3) := by decide +kernel
theorem d_Argument_isCharacterNumber_7 : decode cd_Argument_isCharacterNumber 7 = .ok (.aload_n 0, 1) := by decide +kernel
theorem d_Argument_isCharacterNumber_8 : decode cd_Argument_isCharacterNumber 8 = .ok (.getfield 11, 3) := by decide +kernel
theorem d_Argument_isCharacterNumber_11 : decode cd_Argument_isCharacterNumber 11 = .ok (.iconst 0, 1) := by decide +kernel
theorem d_Argument_isCharacterNumber_12 : decode cd_Argument_isCharacterNumber 12 = .ok (.laload, 1) := by decide +kernel
theorem d_Argument_isCharacterNumber_13 : decode cd_Argument_isCharacterNumber 13 = .ok (.lconst 1, 1) := by decide +kernel
theorem d_Argument_isCharacterNumber_14 : decode cd_Argument_isCharacterNumber 14 = .ok (.lcmp, 1) := by decide +kernel
theorem d_Argument_isCharacterNumber_15 : decode cd_Argument_isCharacterNumber 15 = .ok (.ifCond .lt 20, 3) := by decide +kernel
theorem d_Argument_isCharacterNumber_18 : decode cd_Argument_isCharacterNumber 18 = .ok (.aload_n 0, 1) := by decide +kernel
theorem d_Argument_isCharacterNumber_19 : decode cd_Argument_isCharacterNumber 19 = .ok (.getfield 11, 3) := by decide +kernel
theorem d_Argument_isCharacterNumber_22 : decode cd_Argument_isCharacterNumber 22 = .ok (.iconst 0, 1) := by decide +kernel
theorem d_Argument_isCharacterNumber_23 : decode cd_Argument_isCharacterNumber 23 = .ok (.laload, 1) := by decide +kernel
theorem d_Argument_isCharacterNumber_24 : decode cd_Argument_isCharacterNumber 24 = .ok (.ldc2_w 56, 3) := by decide +kernel
theorem d_Argument_isCharacterNumber_27 : decode cd_Argument_isCharacterNumber 27 = .ok (.lcmp, 1) := by decide +kernel
theorem d_Argument_isCharacterNumber_28 : decode cd_Argument_isCharacterNumber 28 = .ok (.ifCond .gt 7, 3) := by decide +kernel
theorem d_Argument_isCharacterNumber_31 : decode cd_Argument_isCharacterNumber 31 = .ok (.iconst 1, 1) := by decide +kernel
theorem d_Argument_isCharacterNumber_32 : decode cd_Argument_isCharacterNumber 32 = .ok (.goto 4, 3) := by decide +kernel
theorem d_Argument_isCharacterNumber_35 : decode cd_Argument_isCharacterNumber 35 = .ok (.iconst 0, 1) := by decide +kernel
theorem d_Argument_isCharacterNumber_36 : decode cd_Argument_isCharacterNumber 36 = .ok (.ireturn, 1) := by decide +kernel
theorem m_103 : Cond.constantLong R_Argument 56 126 ∈ gw := gm (i := 620) (by decide +kernel) (by decide +kernel)
def f_Argument_isCharacterNumber (t_words : Nat → Int64) (t_minus : Int32) : Option Int32 :=
  (if t_minus = 0 then (if inB (0 : Int32) 8 = true then (if (lg_cmp (t_words (0 : Int32).toNatClampNeg) (1 : Int64)) < 0 then some (0 : Int32) else (if inB (0 : Int32) 8 = true then (if 0 < (lg_cmp (t_words (0 : Int32).toNatClampNeg) (126 : Int64)) then some (0 : Int32) else some (1 : Int32)) else none)) else none) else some (0 : Int32))
set_option maxHeartbeats 4000000 in
set_option maxRecDepth 100000 in
theorem c_Argument_isCharacterNumber (l : Launch) (G : Gt) (K : Nat) (qt : Nat) (qt_words : Nat) (t_words : Nat → Int64) (t_kind : Nat) (t_minus : Int32) (t_bits : Int64) (t_wide : Int32) (t_lowest : Int32) (t_letters : Option Nat) (sz : Nat) (res : Int32)  (hr_t_kind : t_kind < 8) (hf : f_Argument_isCharacterNumber t_words t_minus = some res) : Met l y_Argument_isCharacterNumber (.code y_Argument_isCharacterNumber cd_Argument_isCharacterNumber 1 (some .boolean) :: gw) { frames := 0, cells := 0, slots := 0, locals := 0 } (PC G ([.ref qt] : List Value) sz (w_Argument_become G qt qt_words t_words t_kind t_minus t_bits t_wide t_lowest t_letters)) (QZ G res (va_A (w_Argument_become G qt qt_words t_words t_kind t_minus t_bits t_wide t_lowest t_letters) sz) (w_Argument_become G qt qt_words t_words t_kind t_minus t_bits t_wide t_lowest t_letters)) 0 0 (va_A (w_Argument_become G qt qt_words t_words t_kind t_minus t_bits t_wide t_lowest t_letters) sz) := by
  refine Met.ofW (cc := cd_Argument_isCharacterNumber) (maxL := 1) (ret := (some .boolean)) (by decide) rfl ?_
  intro p e s m args below meth c s₁ B hml hv
  obtain ⟨rfl, hsz, hP, hE, hD0⟩ := hv
  have hx := B.exec
  have hb := B.bytes
  have hr := B.returns
  have hts := atoms_spec (ws := (.code y_Argument_isCharacterNumber cd_Argument_isCharacterNumber 1 (some .boolean) :: gw)) B.pre
  have hg : ∀ w ∈ gw, w.before _ s = true := fun w h => hts w (List.mem_cons_of_mem _ h)
  have hown : s.vm.findClass R_Argument = some m.cls := findClass_of_methodNamed B.named
  have hlocks := B.notSynchronized
  subst hsz
  have hK := hE.K
  have hD := hD0.self (sz := s.heap.size)
  have hAb := hE.ab hD0
  obtain ⟨Q, hQ⟩ : ∃ Q, MQ below (QZ G res (va_A (w_Argument_become G qt qt_words t_words t_kind t_minus t_bits t_wide t_lowest t_letters) s.heap.size) (w_Argument_become G qt qt_words t_words t_kind t_minus t_bits t_wide t_lowest t_letters)) ([.ref qt] : List Value).toArray s 0 0 (va_A (w_Argument_become G qt qt_words t_words t_kind t_minus t_bits t_wide t_lowest t_letters) s.heap.size) = Q := ⟨_, rfl⟩
  show W p l e { frames := 0, cells := 0, slots := 0, locals := 0 } s m ([.ref qt] : List Value).toArray below meth c s.heap [] 0 0 (MQ below (QZ G res (va_A (w_Argument_become G qt qt_words t_words t_kind t_minus t_bits t_wide t_lowest t_letters) s.heap.size) (w_Argument_become G qt qt_words t_words t_kind t_minus t_bits t_wide t_lowest t_letters)) ([.ref qt] : List Value).toArray s 0 0 (va_A (w_Argument_become G qt qt_words t_words t_kind t_minus t_bits t_wide t_lowest t_letters) s.heap.size)) _
  rw [hQ]
  have hA : ∀ q : Nat, s.heap.size ≤ q → va_A (w_Argument_become G qt qt_words t_words t_kind t_minus t_bits t_wide t_lowest t_letters) s.heap.size q := fun q h => Or.inr h
  obtain ⟨A, hAe⟩ : ∃ A, va_A (w_Argument_become G qt qt_words t_words t_kind t_minus t_bits t_wide t_lowest t_letters) s.heap.size = A := ⟨_, rfl⟩
  rw [hAe] at hA hD hAb hQ
  have hS : va_S A s.heap s.heap [] := va_S.rf
  have hl := lv_entry (([.ref qt] : List Value)) (n := 1) (Nat.le_of_ble_eq_true rfl)
  rw [lg_entry_eq]
  generalize (lg_sl (([.ref qt] : List Value)) ++ List.replicate (1 - (lg_sl (([.ref qt] : List Value))).length) Slot.unset).toArray = ls at hl ⊢
  have hl : lv_has ls 1 [(0, .ref qt)] := hl
  unfold f_Argument_isCharacterNumber at hf
  refine lv_aload_n hx hb d_Argument_isCharacterNumber_0 rfl (lv_at hl 0 rfl) ?_
  refine va_get (D := gD G) (ci := 0) (v := .int t_minus) (C := R_Argument) (T := F_Argument) (N := 7) hx hb hg in_Argument hown hK hP 0 rfl rfl 2 (by decide) (hg _ m_92) (fun _ h9 => h9) rfl d_Argument_isCharacterNumber_1 ?_
  refine lv_if_ne (tgt := 35) hx hb d_Argument_isCharacterNumber_4 (by decide) (fun c_4 => ?_) (fun c_4 => ?_)
  · have hf := in_ c_4 hf
    refine lv_iconst (v := 0) hx hb d_Argument_isCharacterNumber_35 (by decide) ?_
    obtain rfl := Option.some.inj hf
    rw [← hQ]
    exact W.zret (v := (0 : Int32)) hx hb hr (bl_n bl_0) (fun t9 ht hW => ⟨⟨(0 : Int32), (), rfl, ⟨rfl, bl_0⟩, ⟨by rw [ht]; exact hP, hD⟩⟩, hS.F ht⟩) hS.2.2 d_Argument_isCharacterNumber_36
  · have hf := ip_ c_4 hf
    refine lv_aload_n hx hb d_Argument_isCharacterNumber_7 rfl (lv_at hl 0 rfl) ?_
    refine va_get (D := gD G) (ci := 0) (v := .ref qt_words) (C := R_Argument) (T := F_Argument) (N := 7) hx hb hg in_Argument hown hK hP 0 rfl rfl 0 (by decide) (hg _ m_86) (fun _ h9 => h9) rfl d_Argument_isCharacterNumber_8 ?_
    refine lv_iconst (v := 0) hx hb d_Argument_isCharacterNumber_11 (by decide) ?_
    obtain ⟨g_12, hf⟩ := gd_ hf
    refine va_lald hx hb hK hP 1 2 rfl rfl (inB_in g_12) d_Argument_isCharacterNumber_12 ?_
    refine lv_lconst (v := 1) hx hb d_Argument_isCharacterNumber_13 (by decide) ?_
    refine W.lcmp hx hb d_Argument_isCharacterNumber_14 ?_
    refine lv_if_lt (tgt := 35) hx hb d_Argument_isCharacterNumber_15 (by decide) (fun c_15 => ?_) (fun c_15 => ?_)
    · have hf := ip_ c_15 hf
      refine lv_iconst (v := 0) hx hb d_Argument_isCharacterNumber_35 (by decide) ?_
      obtain rfl := Option.some.inj hf
      rw [← hQ]
      exact W.zret (v := (0 : Int32)) hx hb hr (bl_n bl_0) (fun t9 ht hW => ⟨⟨(0 : Int32), (), rfl, ⟨rfl, bl_0⟩, ⟨by rw [ht]; exact hP, hD⟩⟩, hS.F ht⟩) hS.2.2 d_Argument_isCharacterNumber_36
    · have hf := in_ c_15 hf
      refine lv_aload_n hx hb d_Argument_isCharacterNumber_18 rfl (lv_at hl 0 rfl) ?_
      refine va_get (D := gD G) (ci := 0) (v := .ref qt_words) (C := R_Argument) (T := F_Argument) (N := 7) hx hb hg in_Argument hown hK hP 0 rfl rfl 0 (by decide) (hg _ m_86) (fun _ h9 => h9) rfl d_Argument_isCharacterNumber_19 ?_
      refine lv_iconst (v := 0) hx hb d_Argument_isCharacterNumber_22 (by decide) ?_
      obtain ⟨g_23, hf⟩ := gd_ hf
      refine va_lald hx hb hK hP 1 2 rfl rfl (inB_in g_23) d_Argument_isCharacterNumber_23 ?_
      refine lv_ldc2 (v := 126) hx hb hown (hg _ m_103) d_Argument_isCharacterNumber_24 ?_
      refine W.lcmp hx hb d_Argument_isCharacterNumber_27 ?_
      refine lv_if_gt (tgt := 35) hx hb d_Argument_isCharacterNumber_28 (by decide) (fun c_28 => ?_) (fun c_28 => ?_)
      · have hf := ip_ c_28 hf
        refine lv_iconst (v := 0) hx hb d_Argument_isCharacterNumber_35 (by decide) ?_
        obtain rfl := Option.some.inj hf
        rw [← hQ]
        exact W.zret (v := (0 : Int32)) hx hb hr (bl_n bl_0) (fun t9 ht hW => ⟨⟨(0 : Int32), (), rfl, ⟨rfl, bl_0⟩, ⟨by rw [ht]; exact hP, hD⟩⟩, hS.F ht⟩) hS.2.2 d_Argument_isCharacterNumber_36
      · have hf := in_ c_28 hf
        refine lv_iconst (v := 1) hx hb d_Argument_isCharacterNumber_31 (by decide) ?_
        refine lv_goto (tgt := 36) hx hb d_Argument_isCharacterNumber_32 (by decide) ?_
        obtain rfl := Option.some.inj hf
        rw [← hQ]
        exact W.zret (v := (1 : Int32)) hx hb hr (bl_n bl_1) (fun t9 ht hW => ⟨⟨(1 : Int32), (), rfl, ⟨rfl, bl_1⟩, ⟨by rw [ht]; exact hP, hD⟩⟩, hS.F ht⟩) hS.2.2 d_Argument_isCharacterNumber_36
theorem d_Argument_isBeyondNumbers_0 : decode cd_Argument_isBeyondNumbers 0 = .ok (.aload_n 0, 1) := by decide +kernel
theorem d_Argument_isBeyondNumbers_1 : decode cd_Argument_isBeyondNumbers 1 = .ok (.getfield 21, 3) := by decide +kernel
theorem d_Argument_isBeyondNumbers_4 : decode cd_Argument_isBeyondNumbers 4 = .ok (.getstatic 49, 3) := by decide +kernel
theorem d_Argument_isBeyondNumbers_7 : decode cd_Argument_isBeyondNumbers 7 = .ok (.if_acmp .ne 20, 3) := by decide +kernel
theorem d_Argument_isBeyondNumbers_10 : decode cd_Argument_isBeyondNumbers 10 = .ok (.aload_n 0, 1) := by decide +kernel
theorem d_Argument_isBeyondNumbers_11 : decode cd_Argument_isBeyondNumbers 11 = .ok (.getfield 34, 3) := by decide +kernel
theorem d_Argument_isBeyondNumbers_14 : decode cd_Argument_isBeyondNumbers 14 = .ok (.invokestatic 65, 3) := by decide +kernel
theorem d_Argument_isBeyondNumbers_17 : decode cd_Argument_isBeyondNumbers 17 = .ok (.sipush 2047, 3) := by decide +kernel
theorem d_Argument_isBeyondNumbers_20 : decode cd_Argument_isBeyondNumbers 20 = .ok (.if_icmp .ne 7, 3) := by decide +kernel
theorem d_Argument_isBeyondNumbers_23 : decode cd_Argument_isBeyondNumbers 23 = .ok (.iconst 1, 1) := by decide +kernel
theorem d_Argument_isBeyondNumbers_24 : decode cd_Argument_isBeyondNumbers 24 = .ok (.goto 4, 3) := by decide +kernel
theorem d_Argument_isBeyondNumbers_27 : decode cd_Argument_isBeyondNumbers 27 = .ok (.iconst 0, 1) := by decide +kernel
theorem d_Argument_isBeyondNumbers_28 : decode cd_Argument_isBeyondNumbers 28 = .ok (.ireturn, 1) := by decide +kernel
theorem m_104 : Cond.methodLink R_Argument 65 y_Hex_exponentBits ∈ gw := gm (i := 667) (by decide +kernel) (by decide +kernel)
def f_Argument_isBeyondNumbers (t_kind : Nat) (t_bits : Int64) : Option Int32 :=
  (if t_kind = 6 then ((f_Hex_exponentBits t_bits).bind fun u_14 => (if u_14 = (2047 : Int32) then some (1 : Int32) else some (0 : Int32))) else some (0 : Int32))
set_option maxHeartbeats 4000000 in
set_option maxRecDepth 100000 in
theorem c_Argument_isBeyondNumbers (l : Launch) (G : Gt) (K : Nat) (qt : Nat) (qt_words : Nat) (t_words : Nat → Int64) (t_kind : Nat) (t_minus : Int32) (t_bits : Int64) (t_wide : Int32) (t_lowest : Int32) (t_letters : Option Nat) (sz : Nat) (res : Int32)  (hr_t_kind : t_kind < 8) (hf : f_Argument_isBeyondNumbers t_kind t_bits = some res) : Met l y_Argument_isBeyondNumbers (.code y_Argument_isBeyondNumbers cd_Argument_isBeyondNumbers 1 (some .boolean) :: gw) { frames := 1, cells := 0, slots := 0, locals := 40 } (PC G ([.ref qt] : List Value) sz (w_Argument_become G qt qt_words t_words t_kind t_minus t_bits t_wide t_lowest t_letters)) (QZ G res (va_A (w_Argument_become G qt qt_words t_words t_kind t_minus t_bits t_wide t_lowest t_letters) sz) (w_Argument_become G qt qt_words t_words t_kind t_minus t_bits t_wide t_lowest t_letters)) 0 0 (va_A (w_Argument_become G qt qt_words t_words t_kind t_minus t_bits t_wide t_lowest t_letters) sz) := by
  refine Met.ofW (cc := cd_Argument_isBeyondNumbers) (maxL := 1) (ret := (some .boolean)) (by decide) rfl ?_
  intro p e s m args below meth c s₁ B hml hv
  obtain ⟨rfl, hsz, hP, hE, hD0⟩ := hv
  have hx := B.exec
  have hb := B.bytes
  have hr := B.returns
  have hts := atoms_spec (ws := (.code y_Argument_isBeyondNumbers cd_Argument_isBeyondNumbers 1 (some .boolean) :: gw)) B.pre
  have hg : ∀ w ∈ gw, w.before _ s = true := fun w h => hts w (List.mem_cons_of_mem _ h)
  have hown : s.vm.findClass R_Argument = some m.cls := findClass_of_methodNamed B.named
  have hlocks := B.notSynchronized
  subst hsz
  have hK := hE.K
  have hD := hD0.self (sz := s.heap.size)
  have hAb := hE.ab hD0
  obtain ⟨Q, hQ⟩ : ∃ Q, MQ below (QZ G res (va_A (w_Argument_become G qt qt_words t_words t_kind t_minus t_bits t_wide t_lowest t_letters) s.heap.size) (w_Argument_become G qt qt_words t_words t_kind t_minus t_bits t_wide t_lowest t_letters)) ([.ref qt] : List Value).toArray s 0 0 (va_A (w_Argument_become G qt qt_words t_words t_kind t_minus t_bits t_wide t_lowest t_letters) s.heap.size) = Q := ⟨_, rfl⟩
  show W p l e { frames := 1, cells := 0, slots := 0, locals := 40 } s m ([.ref qt] : List Value).toArray below meth c s.heap [] 0 0 (MQ below (QZ G res (va_A (w_Argument_become G qt qt_words t_words t_kind t_minus t_bits t_wide t_lowest t_letters) s.heap.size) (w_Argument_become G qt qt_words t_words t_kind t_minus t_bits t_wide t_lowest t_letters)) ([.ref qt] : List Value).toArray s 0 0 (va_A (w_Argument_become G qt qt_words t_words t_kind t_minus t_bits t_wide t_lowest t_letters) s.heap.size)) _
  rw [hQ]
  have hA : ∀ q : Nat, s.heap.size ≤ q → va_A (w_Argument_become G qt qt_words t_words t_kind t_minus t_bits t_wide t_lowest t_letters) s.heap.size q := fun q h => Or.inr h
  obtain ⟨A, hAe⟩ : ∃ A, va_A (w_Argument_become G qt qt_words t_words t_kind t_minus t_bits t_wide t_lowest t_letters) s.heap.size = A := ⟨_, rfl⟩
  rw [hAe] at hA hD hAb hQ
  have hS : va_S A s.heap s.heap [] := va_S.rf
  have hl := lv_entry (([.ref qt] : List Value)) (n := 1) (Nat.le_of_ble_eq_true rfl)
  rw [lg_entry_eq]
  generalize (lg_sl (([.ref qt] : List Value)) ++ List.replicate (1 - (lg_sl (([.ref qt] : List Value))).length) Slot.unset).toArray = ls at hl ⊢
  have hl : lv_has ls 1 [(0, .ref qt)] := hl
  unfold f_Argument_isBeyondNumbers at hf
  refine lv_aload_n hx hb d_Argument_isBeyondNumbers_0 rfl (lv_at hl 0 rfl) ?_
  refine va_get (D := gD G) (ci := 0) (v := .ref (gK G t_kind)) (C := R_Argument) (T := F_Argument) (N := 7) hx hb hg in_Argument hown hK hP 0 rfl rfl 1 (by decide) (hg _ m_91) (fun _ h9 => h9) rfl d_Argument_isBeyondNumbers_1 ?_
  refine va_gets hx hb (hE.kz hAb 6 (by decide)) hS hown (hg _ m_97) (fun _ h9 => h9) d_Argument_isBeyondNumbers_4 ?_
  refine ac_ne hE hr_t_kind (by decide) (tgt := 27) hx hb d_Argument_isBeyondNumbers_7 (by decide) (fun c_7 => ?_) (fun c_7 => ?_)
  · have hf := in_ c_7 hf
    refine lv_iconst (v := 0) hx hb d_Argument_isBeyondNumbers_27 (by decide) ?_
    obtain rfl := Option.some.inj hf
    rw [← hQ]
    exact W.zret (v := (0 : Int32)) hx hb hr (bl_n bl_0) (fun t9 ht hW => ⟨⟨(0 : Int32), (), rfl, ⟨rfl, bl_0⟩, ⟨by rw [ht]; exact hP, hD⟩⟩, hS.F ht⟩) hS.2.2 d_Argument_isBeyondNumbers_28
  · have hf := ip_ c_7 hf
    refine lv_aload_n hx hb d_Argument_isBeyondNumbers_10 rfl (lv_at hl 0 rfl) ?_
    refine va_get (D := gD G) (ci := 0) (v := .long t_bits) (C := R_Argument) (T := F_Argument) (N := 7) hx hb hg in_Argument hown hK hP 0 rfl rfl 3 (by decide) (hg _ m_93) (fun _ h9 => h9) rfl d_Argument_isBeyondNumbers_11 ?_
    obtain ⟨u_14, hu_14, hf⟩ := bd_ hf
    refine CALLi (va_runS (As := [.long t_bits]) (rest := []) ⟨hx, hb, hml, hown, hg⟩ (c_Hex_exponentBits l G K t_bits _ u_14  hu_14) (va_cwS 1 hg (gS m_104 m_80 m_81 m_82) rfl rfl rfl (by decide +kernel) ⟨Nat.le_of_ble_eq_true rfl, Nat.le_of_ble_eq_true rfl⟩) ⟨PC_b, PC_p hE hS hAb (hP.sub [] rfl) (hD.sub [] (by decide) rfl)⟩ rfl rfl hl.1 rfl (lv_room (Nat.le_of_ble_eq_true rfl)) d_Argument_isBeyondNumbers_14 ⟨Nat.zero_le _, Nat.zero_le _⟩) hP hD hS hA [] rfl rfl rfl (fun H locs hP hD hS => ?_)
    have hP : va_P (gD G) vwCl (w_Argument_become G qt qt_words t_words t_kind t_minus t_bits t_wide t_lowest t_letters) H := hP
    have hD : va_D A (w_Argument_become G qt qt_words t_words t_kind t_minus t_bits t_wide t_lowest t_letters) := hD
    refine lv_sipush (v := 2047) hx hb d_Argument_isBeyondNumbers_17 (by decide) ?_
    refine lv_icmp_ne (tgt := 27) hx hb d_Argument_isBeyondNumbers_20 (by decide) (fun c_20 => ?_) (fun c_20 => ?_)
    · have hf := in_ c_20 hf
      refine lv_iconst (v := 0) hx hb d_Argument_isBeyondNumbers_27 (by decide) ?_
      obtain rfl := Option.some.inj hf
      rw [← hQ]
      exact W.zret (v := (0 : Int32)) hx hb hr (bl_n bl_0) (fun t9 ht hW => ⟨⟨(0 : Int32), (), rfl, ⟨rfl, bl_0⟩, ⟨by rw [ht]; exact hP, hD⟩⟩, hS.F ht⟩) hS.2.2 d_Argument_isBeyondNumbers_28
    · have hf := ip_ c_20 hf
      refine lv_iconst (v := 1) hx hb d_Argument_isBeyondNumbers_23 (by decide) ?_
      refine lv_goto (tgt := 28) hx hb d_Argument_isBeyondNumbers_24 (by decide) ?_
      obtain rfl := Option.some.inj hf
      rw [← hQ]
      exact W.zret (v := (1 : Int32)) hx hb hr (bl_n bl_1) (fun t9 ht hW => ⟨⟨(1 : Int32), (), rfl, ⟨rfl, bl_1⟩, ⟨by rw [ht]; exact hP, hD⟩⟩, hS.F ht⟩) hS.2.2 d_Argument_isBeyondNumbers_28
theorem d_Argument_isNoNumber_0 : decode cd_Argument_isNoNumber 0 = .ok (.aload_n 0, 1) := by decide +kernel
theorem d_Argument_isNoNumber_1 : decode cd_Argument_isNoNumber 1 = .ok (.invokevirtual 58, 3) := by decide +kernel
theorem d_Argument_isNoNumber_4 : decode cd_Argument_isNoNumber 4 = .ok (.ifCond .eq 20, 3) := by decide +kernel
theorem d_Argument_isNoNumber_7 : decode cd_Argument_isNoNumber 7 = .ok (.aload_n 0, 1) := by decide +kernel
theorem d_Argument_isNoNumber_8 : decode cd_Argument_isNoNumber 8 = .ok (.getfield 34, 3) := by decide +kernel
theorem d_Argument_isNoNumber_11 : decode cd_Argument_isNoNumber 11 = .ok (.ldc2_w 63, 3) := by decide +kernel
theorem d_Argument_isNoNumber_14 : decode cd_Argument_isNoNumber 14 = .ok (.land, 1) := by decide +kernel
theorem d_Argument_isNoNumber_15 : decode cd_Argument_isNoNumber 15 = .ok (.lconst 0, 1) := by decide +kernel
theorem d_Argument_isNoNumber_16 : decode cd_Argument_isNoNumber 16 = .ok (.lcmp, 1) := by decide +kernel
theorem d_Argument_isNoNumber_17 : decode cd_Argument_isNoNumber 17 = .ok (.ifCond .eq 7, 3) := by decide +kernel
theorem d_Argument_isNoNumber_20 : decode cd_Argument_isNoNumber 20 = .ok (.iconst 1, 1) := by decide +kernel
theorem d_Argument_isNoNumber_21 : decode cd_Argument_isNoNumber 21 = .ok (.goto 4, 3) := by decide +kernel
theorem d_Argument_isNoNumber_24 : decode cd_Argument_isNoNumber 24 = .ok (.iconst 0, 1) := by decide +kernel
theorem d_Argument_isNoNumber_25 : decode cd_Argument_isNoNumber 25 = .ok (.ireturn, 1) := by decide +kernel
theorem m_105 : Cond.methodLink R_Argument 58 y_Argument_isBeyondNumbers ∈ gw := gm (i := 662) (by decide +kernel) (by decide +kernel)
theorem m_106 : Cond.instanceMethod y_Argument_isBeyondNumbers ∈ gw := gm (i := 663) (by decide +kernel) (by decide +kernel)
theorem m_107 : Cond.selects R_Argument y_Argument_isBeyondNumbers y_Argument_isBeyondNumbers ∈ gw := gm (i := 664) (by decide +kernel) (by decide +kernel)
set_option maxRecDepth 100000 in
theorem m_108 : Cond.code y_Argument_isBeyondNumbers cd_Argument_isBeyondNumbers 1 (some .boolean) ∈ gw := gm (i := 665) rfl rfl
theorem m_109 : Cond.constantLong R_Argument 63 4503599627370495 ∈ gw := gm (i := 670) (by decide +kernel) (by decide +kernel)
def f_Argument_isNoNumber (t_kind : Nat) (t_bits : Int64) : Option Int32 :=
  ((f_Argument_isBeyondNumbers t_kind t_bits).bind fun u_1 => (if u_1 = 0 then some (0 : Int32) else (if (lg_cmp (t_bits &&& (4503599627370495 : Int64)) (0 : Int64)) = 0 then some (0 : Int32) else some (1 : Int32))))
set_option maxHeartbeats 4000000 in
set_option maxRecDepth 100000 in
theorem c_Argument_isNoNumber (l : Launch) (G : Gt) (K : Nat) (qt : Nat) (qt_words : Nat) (t_words : Nat → Int64) (t_kind : Nat) (t_minus : Int32) (t_bits : Int64) (t_wide : Int32) (t_lowest : Int32) (t_letters : Option Nat) (sz : Nat) (res : Int32)  (hr_t_kind : t_kind < 8) (hf : f_Argument_isNoNumber t_kind t_bits = some res) : Met l y_Argument_isNoNumber (.code y_Argument_isNoNumber cd_Argument_isNoNumber 1 (some .boolean) :: gw) { frames := 2, cells := 0, slots := 0, locals := 80 } (PC G ([.ref qt] : List Value) sz (w_Argument_become G qt qt_words t_words t_kind t_minus t_bits t_wide t_lowest t_letters)) (QZ G res (va_A (w_Argument_become G qt qt_words t_words t_kind t_minus t_bits t_wide t_lowest t_letters) sz) (w_Argument_become G qt qt_words t_words t_kind t_minus t_bits t_wide t_lowest t_letters)) 0 0 (va_A (w_Argument_become G qt qt_words t_words t_kind t_minus t_bits t_wide t_lowest t_letters) sz) := by
  refine Met.ofW (cc := cd_Argument_isNoNumber) (maxL := 1) (ret := (some .boolean)) (by decide) rfl ?_
  intro p e s m args below meth c s₁ B hml hv
  obtain ⟨rfl, hsz, hP, hE, hD0⟩ := hv
  have hx := B.exec
  have hb := B.bytes
  have hr := B.returns
  have hts := atoms_spec (ws := (.code y_Argument_isNoNumber cd_Argument_isNoNumber 1 (some .boolean) :: gw)) B.pre
  have hg : ∀ w ∈ gw, w.before _ s = true := fun w h => hts w (List.mem_cons_of_mem _ h)
  have hown : s.vm.findClass R_Argument = some m.cls := findClass_of_methodNamed B.named
  have hlocks := B.notSynchronized
  subst hsz
  have hK := hE.K
  have hD := hD0.self (sz := s.heap.size)
  have hAb := hE.ab hD0
  obtain ⟨Q, hQ⟩ : ∃ Q, MQ below (QZ G res (va_A (w_Argument_become G qt qt_words t_words t_kind t_minus t_bits t_wide t_lowest t_letters) s.heap.size) (w_Argument_become G qt qt_words t_words t_kind t_minus t_bits t_wide t_lowest t_letters)) ([.ref qt] : List Value).toArray s 0 0 (va_A (w_Argument_become G qt qt_words t_words t_kind t_minus t_bits t_wide t_lowest t_letters) s.heap.size) = Q := ⟨_, rfl⟩
  show W p l e { frames := 2, cells := 0, slots := 0, locals := 80 } s m ([.ref qt] : List Value).toArray below meth c s.heap [] 0 0 (MQ below (QZ G res (va_A (w_Argument_become G qt qt_words t_words t_kind t_minus t_bits t_wide t_lowest t_letters) s.heap.size) (w_Argument_become G qt qt_words t_words t_kind t_minus t_bits t_wide t_lowest t_letters)) ([.ref qt] : List Value).toArray s 0 0 (va_A (w_Argument_become G qt qt_words t_words t_kind t_minus t_bits t_wide t_lowest t_letters) s.heap.size)) _
  rw [hQ]
  have hA : ∀ q : Nat, s.heap.size ≤ q → va_A (w_Argument_become G qt qt_words t_words t_kind t_minus t_bits t_wide t_lowest t_letters) s.heap.size q := fun q h => Or.inr h
  obtain ⟨A, hAe⟩ : ∃ A, va_A (w_Argument_become G qt qt_words t_words t_kind t_minus t_bits t_wide t_lowest t_letters) s.heap.size = A := ⟨_, rfl⟩
  rw [hAe] at hA hD hAb hQ
  have hS : va_S A s.heap s.heap [] := va_S.rf
  have hl := lv_entry (([.ref qt] : List Value)) (n := 1) (Nat.le_of_ble_eq_true rfl)
  rw [lg_entry_eq]
  generalize (lg_sl (([.ref qt] : List Value)) ++ List.replicate (1 - (lg_sl (([.ref qt] : List Value))).length) Slot.unset).toArray = ls at hl ⊢
  have hl : lv_has ls 1 [(0, .ref qt)] := hl
  unfold f_Argument_isNoNumber at hf
  refine lv_aload_n hx hb d_Argument_isNoNumber_0 rfl (lv_at hl 0 rfl) ?_
  obtain ⟨u_1, hu_1, hf⟩ := bd_ hf
  refine CALLWz (va_runV (As := []) (rest := []) ⟨hx, hb, hml, hown, hg⟩ (c_Argument_isBeyondNumbers l G K qt qt_words t_words t_kind t_minus t_bits t_wide t_lowest t_letters _ u_1 hr_t_kind hu_1) (cwV 0 hg (gV m_105 m_106 m_107 m_101 m_108) rfl rfl rfl (by decide +kernel) ⟨Nat.le_of_ble_eq_true rfl, Nat.le_of_ble_eq_true rfl⟩) ⟨PC_b, va_recv hK hP (ci := 0) (q0 := 0) rfl rfl, PC_p hE hS hAb hP hD⟩ rfl rfl hl.1 rfl (lv_room (Nat.le_of_ble_eq_true rfl)) d_Argument_isNoNumber_1 ⟨Nat.zero_le _, Nat.zero_le _⟩) hP hD hS hA (fun bu_1 H locs hP hD hS => ?_)
  have hP : va_P (gD G) vwCl (w_Argument_become G qt qt_words t_words t_kind t_minus t_bits t_wide t_lowest t_letters) H := hP
  have hD : va_D A (w_Argument_become G qt qt_words t_words t_kind t_minus t_bits t_wide t_lowest t_letters) := hD
  refine lv_if_eq (tgt := 24) hx hb d_Argument_isNoNumber_4 (by decide) (fun c_4 => ?_) (fun c_4 => ?_)
  · have hf := ip_ c_4 hf
    refine lv_iconst (v := 0) hx hb d_Argument_isNoNumber_24 (by decide) ?_
    obtain rfl := Option.some.inj hf
    rw [← hQ]
    exact W.zret (v := (0 : Int32)) hx hb hr (bl_n bl_0) (fun t9 ht hW => ⟨⟨(0 : Int32), (), rfl, ⟨rfl, bl_0⟩, ⟨by rw [ht]; exact hP, hD⟩⟩, hS.F ht⟩) hS.2.2 d_Argument_isNoNumber_25
  · have hf := in_ c_4 hf
    refine lv_aload_n hx hb d_Argument_isNoNumber_7 rfl (lv_at hl 0 rfl) ?_
    refine va_get (D := gD G) (ci := 0) (v := .long t_bits) (C := R_Argument) (T := F_Argument) (N := 7) hx hb hg in_Argument hown hK hP 0 rfl rfl 3 (by decide) (hg _ m_93) (fun _ h9 => h9) rfl d_Argument_isNoNumber_8 ?_
    refine lv_ldc2 (v := 4503599627370495) hx hb hown (hg _ m_109) d_Argument_isNoNumber_11 ?_
    refine lv_land hx hb d_Argument_isNoNumber_14 ?_
    refine lv_lconst (v := 0) hx hb d_Argument_isNoNumber_15 (by decide) ?_
    refine W.lcmp hx hb d_Argument_isNoNumber_16 ?_
    refine lv_if_eq (tgt := 24) hx hb d_Argument_isNoNumber_17 (by decide) (fun c_17 => ?_) (fun c_17 => ?_)
    · have hf := ip_ c_17 hf
      refine lv_iconst (v := 0) hx hb d_Argument_isNoNumber_24 (by decide) ?_
      obtain rfl := Option.some.inj hf
      rw [← hQ]
      exact W.zret (v := (0 : Int32)) hx hb hr (bl_n bl_0) (fun t9 ht hW => ⟨⟨(0 : Int32), (), rfl, ⟨rfl, bl_0⟩, ⟨by rw [ht]; exact hP, hD⟩⟩, hS.F ht⟩) hS.2.2 d_Argument_isNoNumber_25
    · have hf := in_ c_17 hf
      refine lv_iconst (v := 1) hx hb d_Argument_isNoNumber_20 (by decide) ?_
      refine lv_goto (tgt := 25) hx hb d_Argument_isNoNumber_21 (by decide) ?_
      obtain rfl := Option.some.inj hf
      rw [← hQ]
      exact W.zret (v := (1 : Int32)) hx hb hr (bl_n bl_1) (fun t9 ht hW => ⟨⟨(1 : Int32), (), rfl, ⟨rfl, bl_1⟩, ⟨by rw [ht]; exact hP, hD⟩⟩, hS.F ht⟩) hS.2.2 d_Argument_isNoNumber_25
