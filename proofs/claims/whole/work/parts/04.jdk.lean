theorem d_Preconditions_checkIndex_0 : decode cd_Preconditions_checkIndex 0 = .ok (.iload_n 0, 1) := by decide +kernel
theorem d_Preconditions_checkIndex_1 : decode cd_Preconditions_checkIndex 1 = .ok (.ifCond .lt 8, 3) := by decide +kernel
theorem d_Preconditions_checkIndex_4 : decode cd_Preconditions_checkIndex 4 = .ok (.iload_n 0, 1) := by decide +kernel
theorem d_Preconditions_checkIndex_5 : decode cd_Preconditions_checkIndex 5 = .ok (.iload_n 1, 1) := by decide +kernel
theorem d_Preconditions_checkIndex_6 : decode cd_Preconditions_checkIndex 6 = .ok (.if_icmp .lt 10, 3) := by decide +kernel
theorem d_Preconditions_checkIndex_9 : decode cd_Preconditions_checkIndex 9 = .ok (.aload_n 2, 1) := by decide +kernel
theorem d_Preconditions_checkIndex_10 : decode cd_Preconditions_checkIndex 10 = .ok (.iload_n 0, 1) := by decide +kernel
theorem d_Preconditions_checkIndex_11 : decode cd_Preconditions_checkIndex 11 = .ok (.iload_n 1, 1) := by decide +kernel
theorem d_Preconditions_checkIndex_12 : decode cd_Preconditions_checkIndex 12 = .ok (.invokestatic 95, 3) := by decide +kernel
theorem d_Preconditions_checkIndex_15 : decode cd_Preconditions_checkIndex 15 = .ok (.athrow, 1) := by decide +kernel
theorem d_Preconditions_checkIndex_16 : decode cd_Preconditions_checkIndex 16 = .ok (.iload_n 0, 1) := by decide +kernel
theorem d_Preconditions_checkIndex_17 : decode cd_Preconditions_checkIndex 17 = .ok (.ireturn, 1) := by decide +kernel
def k_Preconditions_checkIndexn_9   : Option Int32 :=
  none
def f_Preconditions_checkIndexn (a1 : Int32) (a2 : Int32) : Option Int32 :=
  (if a1 < 0 then k_Preconditions_checkIndexn_9   else (if a1 < a2 then some a1 else k_Preconditions_checkIndexn_9  ))
abbrev w_Preconditions_checkIndexn (G : Gt)  : va_W := []
set_option maxHeartbeats 4000000 in
set_option maxRecDepth 100000 in
theorem c_Preconditions_checkIndexn (l : Launch) (G : Gt) (K : Nat) (a1 : Int32) (a2 : Int32) (sz : Nat) (res : Int32)   (hf : f_Preconditions_checkIndexn a1 a2 = some res) : Met l y_Preconditions_checkIndex (.code y_Preconditions_checkIndex cd_Preconditions_checkIndex 3 (some .int) :: gw) { frames := 0, cells := 0, slots := 0, locals := 0 } (PC G ([.int a1, .int a2, .null] : List Value) sz (w_Preconditions_checkIndexn G )) (QI G res (va_A (w_Preconditions_checkIndexn G ) sz) (w_Preconditions_checkIndexn G )) 0 0 (va_A (w_Preconditions_checkIndexn G ) sz) := by
  refine Met.ofW (cc := cd_Preconditions_checkIndex) (maxL := 3) (ret := (some .int)) (by decide) rfl ?_
  intro p e s m args below meth c s₁ B hml hv
  obtain ⟨rfl, hsz, hP, hE, hD0⟩ := hv
  have hx := B.exec
  have hb := B.bytes
  have hr := B.returns
  have hts := atoms_spec (ws := (.code y_Preconditions_checkIndex cd_Preconditions_checkIndex 3 (some .int) :: gw)) B.pre
  have hg : ∀ w ∈ gw, w.before _ s = true := fun w h => hts w (List.mem_cons_of_mem _ h)
  have hown : s.vm.findClass R_Preconditions = some m.cls := findClass_of_methodNamed B.named
  have hlocks := B.notSynchronized
  subst hsz
  have hK := hE.K
  have hD := hD0.self (sz := s.heap.size)
  have hAb := hE.ab hD0
  obtain ⟨Q, hQ⟩ : ∃ Q, MQ below (QI G res (va_A (w_Preconditions_checkIndexn G ) s.heap.size) (w_Preconditions_checkIndexn G )) ([.int a1, .int a2, .null] : List Value).toArray s 0 0 (va_A (w_Preconditions_checkIndexn G ) s.heap.size) = Q := ⟨_, rfl⟩
  show W p l e { frames := 0, cells := 0, slots := 0, locals := 0 } s m ([.int a1, .int a2, .null] : List Value).toArray below meth c s.heap [] 0 0 (MQ below (QI G res (va_A (w_Preconditions_checkIndexn G ) s.heap.size) (w_Preconditions_checkIndexn G )) ([.int a1, .int a2, .null] : List Value).toArray s 0 0 (va_A (w_Preconditions_checkIndexn G ) s.heap.size)) _
  rw [hQ]
  have hA : ∀ q : Nat, s.heap.size ≤ q → va_A (w_Preconditions_checkIndexn G ) s.heap.size q := fun q h => Or.inr h
  obtain ⟨A, hAe⟩ : ∃ A, va_A (w_Preconditions_checkIndexn G ) s.heap.size = A := ⟨_, rfl⟩
  rw [hAe] at hA hD hAb hQ
  have hS : va_S A s.heap s.heap [] := va_S.rf
  have hl := lv_entry (([.int a1, .int a2, .null] : List Value)) (n := 3) (Nat.le_of_ble_eq_true rfl)
  rw [lg_entry_eq]
  generalize (lg_sl (([.int a1, .int a2, .null] : List Value)) ++ List.replicate (3 - (lg_sl (([.int a1, .int a2, .null] : List Value))).length) Slot.unset).toArray = ls at hl ⊢
  have hl : lv_has ls 3 [(0, .int a1), (1, .int a2), (2, .null)] := hl
  have W_9 : k_Preconditions_checkIndexn_9   = some res → ∀ (H : Heap) (locs : List Loc) (ls : Array Slot), va_P (gD G) vwCl (w_Preconditions_checkIndexn G ) H → va_D A (w_Preconditions_checkIndexn G ) → va_S A s.heap H locs → lv_has ls 3 [(0, .int a1), (1, .int a2), (2, .null)] → W p l e { frames := 0, cells := 0, slots := 0, locals := 0 } s m ([.int a1, .int a2, .null] : List Value).toArray below meth c H locs 0 0 Q (F0 m 9 ls []) := by
    intro   hf H locs ls hP hD hS hl
    unfold k_Preconditions_checkIndexn_9 at hf
    refine lv_aload_nN hx hb d_Preconditions_checkIndex_9 rfl (lv_at hl 2 rfl) ?_
    refine lv_iload_n hx hb d_Preconditions_checkIndex_10 rfl (lv_at hl 0 rfl) ?_
    refine lv_iload_n hx hb d_Preconditions_checkIndex_11 rfl (lv_at hl 1 rfl) ?_
    cases hf
  unfold f_Preconditions_checkIndexn at hf
  refine lv_iload_n hx hb d_Preconditions_checkIndex_0 rfl (lv_at hl 0 rfl) ?_
  refine lv_if_lt (tgt := 9) hx hb d_Preconditions_checkIndex_1 (by decide) (fun c_1 => ?_) (fun c_1 => ?_)
  · have hf := ip_ c_1 hf
    exact W_9   hf _ _ _ hP hD hS (lv_sub hl [0, 1, 2] rfl)
  · have hf := in_ c_1 hf
    refine lv_iload_n hx hb d_Preconditions_checkIndex_4 rfl (lv_at hl 0 rfl) ?_
    refine lv_iload_n hx hb d_Preconditions_checkIndex_5 rfl (lv_at hl 1 rfl) ?_
    refine lv_icmp_lt (tgt := 16) hx hb d_Preconditions_checkIndex_6 (by decide) (fun c_6 => ?_) (fun c_6 => ?_)
    · have hf := ip_ c_6 hf
      refine lv_iload_n hx hb d_Preconditions_checkIndex_16 rfl (lv_at hl 0 rfl) ?_
      obtain rfl := Option.some.inj hf
      rw [← hQ]
      exact W.iret (v := a1) hx hb hr (fun t9 ht hW => ⟨⟨a1, (), rfl, rfl, ⟨by rw [ht]; exact hP, hD⟩⟩, hS.F ht⟩) hS.2.2 d_Preconditions_checkIndex_17
    · have hf := in_ c_6 hf
      exact W_9   hf _ _ _ hP hD hS (lv_sub hl [0, 1, 2] rfl)
set_option maxHeartbeats 4000000 in
set_option maxRecDepth 100000 in
theorem c_Preconditions_checkIndexr (l : Launch) (G : Gt) (K : Nat) (a1 : Int32) (a2 : Int32) (qa3 : Nat) (sz : Nat) (res : Int32)   (hf : f_Preconditions_checkIndexn a1 a2 = some res) : Met l y_Preconditions_checkIndex (.code y_Preconditions_checkIndex cd_Preconditions_checkIndex 3 (some .int) :: gw) { frames := 0, cells := 0, slots := 0, locals := 0 } (PC G ([.int a1, .int a2, .ref qa3] : List Value) sz (w_Preconditions_checkIndexn G )) (QI G res (va_A (w_Preconditions_checkIndexn G ) sz) (w_Preconditions_checkIndexn G )) 0 0 (va_A (w_Preconditions_checkIndexn G ) sz) := by
  refine Met.ofW (cc := cd_Preconditions_checkIndex) (maxL := 3) (ret := (some .int)) (by decide) rfl ?_
  intro p e s m args below meth c s₁ B hml hv
  obtain ⟨rfl, hsz, hP, hE, hD0⟩ := hv
  have hx := B.exec
  have hb := B.bytes
  have hr := B.returns
  have hts := atoms_spec (ws := (.code y_Preconditions_checkIndex cd_Preconditions_checkIndex 3 (some .int) :: gw)) B.pre
  have hg : ∀ w ∈ gw, w.before _ s = true := fun w h => hts w (List.mem_cons_of_mem _ h)
  have hown : s.vm.findClass R_Preconditions = some m.cls := findClass_of_methodNamed B.named
  have hlocks := B.notSynchronized
  subst hsz
  have hK := hE.K
  have hD := hD0.self (sz := s.heap.size)
  have hAb := hE.ab hD0
  obtain ⟨Q, hQ⟩ : ∃ Q, MQ below (QI G res (va_A (w_Preconditions_checkIndexn G ) s.heap.size) (w_Preconditions_checkIndexn G )) ([.int a1, .int a2, .ref qa3] : List Value).toArray s 0 0 (va_A (w_Preconditions_checkIndexn G ) s.heap.size) = Q := ⟨_, rfl⟩
  show W p l e { frames := 0, cells := 0, slots := 0, locals := 0 } s m ([.int a1, .int a2, .ref qa3] : List Value).toArray below meth c s.heap [] 0 0 (MQ below (QI G res (va_A (w_Preconditions_checkIndexn G ) s.heap.size) (w_Preconditions_checkIndexn G )) ([.int a1, .int a2, .ref qa3] : List Value).toArray s 0 0 (va_A (w_Preconditions_checkIndexn G ) s.heap.size)) _
  rw [hQ]
  have hA : ∀ q : Nat, s.heap.size ≤ q → va_A (w_Preconditions_checkIndexn G ) s.heap.size q := fun q h => Or.inr h
  obtain ⟨A, hAe⟩ : ∃ A, va_A (w_Preconditions_checkIndexn G ) s.heap.size = A := ⟨_, rfl⟩
  rw [hAe] at hA hD hAb hQ
  have hS : va_S A s.heap s.heap [] := va_S.rf
  have hl := lv_entry (([.int a1, .int a2, .ref qa3] : List Value)) (n := 3) (Nat.le_of_ble_eq_true rfl)
  rw [lg_entry_eq]
  generalize (lg_sl (([.int a1, .int a2, .ref qa3] : List Value)) ++ List.replicate (3 - (lg_sl (([.int a1, .int a2, .ref qa3] : List Value))).length) Slot.unset).toArray = ls at hl ⊢
  have hl : lv_has ls 3 [(0, .int a1), (1, .int a2), (2, .ref qa3)] := hl
  have W_9 : k_Preconditions_checkIndexn_9   = some res → ∀ (H : Heap) (locs : List Loc) (ls : Array Slot), va_P (gD G) vwCl (w_Preconditions_checkIndexn G ) H → va_D A (w_Preconditions_checkIndexn G ) → va_S A s.heap H locs → lv_has ls 3 [(0, .int a1), (1, .int a2), (2, .ref qa3)] → W p l e { frames := 0, cells := 0, slots := 0, locals := 0 } s m ([.int a1, .int a2, .ref qa3] : List Value).toArray below meth c H locs 0 0 Q (F0 m 9 ls []) := by
    intro   hf H locs ls hP hD hS hl
    unfold k_Preconditions_checkIndexn_9 at hf
    refine lv_aload_n hx hb d_Preconditions_checkIndex_9 rfl (lv_at hl 2 rfl) ?_
    refine lv_iload_n hx hb d_Preconditions_checkIndex_10 rfl (lv_at hl 0 rfl) ?_
    refine lv_iload_n hx hb d_Preconditions_checkIndex_11 rfl (lv_at hl 1 rfl) ?_
    cases hf
  unfold f_Preconditions_checkIndexn at hf
  refine lv_iload_n hx hb d_Preconditions_checkIndex_0 rfl (lv_at hl 0 rfl) ?_
  refine lv_if_lt (tgt := 9) hx hb d_Preconditions_checkIndex_1 (by decide) (fun c_1 => ?_) (fun c_1 => ?_)
  · have hf := ip_ c_1 hf
    exact W_9   hf _ _ _ hP hD hS (lv_sub hl [0, 1, 2] rfl)
  · have hf := in_ c_1 hf
    refine lv_iload_n hx hb d_Preconditions_checkIndex_4 rfl (lv_at hl 0 rfl) ?_
    refine lv_iload_n hx hb d_Preconditions_checkIndex_5 rfl (lv_at hl 1 rfl) ?_
    refine lv_icmp_lt (tgt := 16) hx hb d_Preconditions_checkIndex_6 (by decide) (fun c_6 => ?_) (fun c_6 => ?_)
    · have hf := ip_ c_6 hf
      refine lv_iload_n hx hb d_Preconditions_checkIndex_16 rfl (lv_at hl 0 rfl) ?_
      obtain rfl := Option.some.inj hf
      rw [← hQ]
      exact W.iret (v := a1) hx hb hr (fun t9 ht hW => ⟨⟨a1, (), rfl, rfl, ⟨by rw [ht]; exact hP, hD⟩⟩, hS.F ht⟩) hS.2.2 d_Preconditions_checkIndex_17
    · have hf := in_ c_6 hf
      exact W_9   hf _ _ _ hP hD hS (lv_sub hl [0, 1, 2] rfl)
theorem d_String_checkIndex_0 : decode cd_String_checkIndex 0 = .ok (.iload_n 0, 1) := by decide +kernel
theorem d_String_checkIndex_1 : decode cd_String_checkIndex 1 = .ok (.iload_n 1, 1) := by decide +kernel
theorem d_String_checkIndex_2 : decode cd_String_checkIndex 2 = .ok (.getstatic 1053, 3) := by decide +kernel
theorem d_String_checkIndex_5 : decode cd_String_checkIndex 5 = .ok (.invokestatic 1059, 3) := by decide +kernel
theorem d_String_checkIndex_8 : decode cd_String_checkIndex 8 = .ok (.pop, 1) := by decide +kernel
theorem d_String_checkIndex_9 : decode cd_String_checkIndex 9 = .ok (.return_, 1) := by decide +kernel
theorem m_0 : Cond.fieldLink R_String 1053 "jdk/internal/util/Preconditions" "SIOOBE_FORMATTER" "Ljava/util/function/BiFunction;" ∈ gw := gm (i := 519) (by decide +kernel) (by decide +kernel)
theorem m_1 : Cond.methodLink R_String 1059 y_Preconditions_checkIndex ∈ gw := gm (i := 648) (by decide +kernel) (by decide +kernel)
theorem m_2 : Cond.static y_Preconditions_checkIndex ∈ gw := gm (i := 649) (by decide +kernel) (by decide +kernel)
theorem m_3 : Cond.initialized R_Preconditions ∈ gw := gm (i := 97) (by decide +kernel) (by decide +kernel)
set_option maxRecDepth 100000 in
theorem m_4 : Cond.code y_Preconditions_checkIndex cd_Preconditions_checkIndex 3 (some .int) ∈ gw := gm (i := 650) rfl rfl
def f_String_checkIndex (a1 : Int32) (a2 : Int32) : Option Unit :=
  ((f_Preconditions_checkIndexn a1 a2).bind fun u_5 => some ())
set_option maxHeartbeats 4000000 in
set_option maxRecDepth 100000 in
theorem c_String_checkIndex (l : Launch) (G : Gt) (K : Nat) (a1 : Int32) (a2 : Int32) (sz : Nat) (res : Unit)   (hf : f_String_checkIndex a1 a2 = some res) : Met l y_String_checkIndex (.code y_String_checkIndex cd_String_checkIndex 2 none :: gw) { frames := 1, cells := 0, slots := 0, locals := 40 } (PC G ([.int a1, .int a2] : List Value) sz (w_Preconditions_checkIndexn G )) (QV G (va_A (w_Preconditions_checkIndexn G ) sz) (w_Preconditions_checkIndexn G )) 0 0 (va_A (w_Preconditions_checkIndexn G ) sz) := by
  refine Met.ofW (cc := cd_String_checkIndex) (maxL := 2) (ret := none) (by decide) rfl ?_
  intro p e s m args below meth c s₁ B hml hv
  obtain ⟨rfl, hsz, hP, hE, hD0⟩ := hv
  have hx := B.exec
  have hb := B.bytes
  have hr := B.returns
  have hts := atoms_spec (ws := (.code y_String_checkIndex cd_String_checkIndex 2 none :: gw)) B.pre
  have hg : ∀ w ∈ gw, w.before _ s = true := fun w h => hts w (List.mem_cons_of_mem _ h)
  have hown : s.vm.findClass R_String = some m.cls := findClass_of_methodNamed B.named
  have hlocks := B.notSynchronized
  subst hsz
  have hK := hE.K
  have hD := hD0.self (sz := s.heap.size)
  have hAb := hE.ab hD0
  obtain ⟨Q, hQ⟩ : ∃ Q, MQ below (QV G (va_A (w_Preconditions_checkIndexn G ) s.heap.size) (w_Preconditions_checkIndexn G )) ([.int a1, .int a2] : List Value).toArray s 0 0 (va_A (w_Preconditions_checkIndexn G ) s.heap.size) = Q := ⟨_, rfl⟩
  show W p l e { frames := 1, cells := 0, slots := 0, locals := 40 } s m ([.int a1, .int a2] : List Value).toArray below meth c s.heap [] 0 0 (MQ below (QV G (va_A (w_Preconditions_checkIndexn G ) s.heap.size) (w_Preconditions_checkIndexn G )) ([.int a1, .int a2] : List Value).toArray s 0 0 (va_A (w_Preconditions_checkIndexn G ) s.heap.size)) _
  rw [hQ]
  have hA : ∀ q : Nat, s.heap.size ≤ q → va_A (w_Preconditions_checkIndexn G ) s.heap.size q := fun q h => Or.inr h
  obtain ⟨A, hAe⟩ : ∃ A, va_A (w_Preconditions_checkIndexn G ) s.heap.size = A := ⟨_, rfl⟩
  rw [hAe] at hA hD hAb hQ
  have hS : va_S A s.heap s.heap [] := va_S.rf
  have hl := lv_entry (([.int a1, .int a2] : List Value)) (n := 2) (Nat.le_of_ble_eq_true rfl)
  rw [lg_entry_eq]
  generalize (lg_sl (([.int a1, .int a2] : List Value)) ++ List.replicate (2 - (lg_sl (([.int a1, .int a2] : List Value))).length) Slot.unset).toArray = ls at hl ⊢
  have hl : lv_has ls 2 [(0, .int a1), (1, .int a2)] := hl
  unfold f_String_checkIndex at hf
  refine lv_iload_n hx hb d_String_checkIndex_0 rfl (lv_at hl 0 rfl) ?_
  refine lv_iload_n hx hb d_String_checkIndex_1 rfl (lv_at hl 1 rfl) ?_
  refine va_gets hx hb (hE.ff hAb) hS hown (hg _ m_0) (fun _ h9 => h9) d_String_checkIndex_2 ?_
  rcases hfm_2 : gF G with _ | qf_2
  · show W _ _ _ _ _ _ _ _ _ _ _ _ _ _ _ (F0 m _ ls (.null :: _))
    obtain ⟨u_5, hu_5, hf⟩ := bd_ hf
    refine CALLWi (va_runS (As := [.int a1, .int a2, .null]) (rest := []) ⟨hx, hb, hml, hown, hg⟩ (c_Preconditions_checkIndexn l G K a1 a2 _ u_5  hu_5) (va_cwS 3 hg (gS m_1 m_2 m_3 m_4) rfl rfl rfl (by decide +kernel) ⟨Nat.le_of_ble_eq_true rfl, Nat.le_of_ble_eq_true rfl⟩) ⟨PC_b, PC_p hE hS hAb hP hD⟩ rfl rfl hl.1 rfl (lv_room (Nat.le_of_ble_eq_true rfl)) d_String_checkIndex_5 ⟨Nat.zero_le _, Nat.zero_le _⟩) hP hD hS hA (fun H locs hP hD hS => ?_)
    have hP : va_P (gD G) vwCl (w_Preconditions_checkIndexn G ) H := hP
    have hD : va_D A (w_Preconditions_checkIndexn G ) := hD
    refine lv_pop hx hb d_String_checkIndex_8 rfl ?_
    obtain rfl := Option.some.inj hf
    rw [← hQ]
    exact W.vret hx hb hr (fun t9 ht hW => ⟨⟨(), rfl, trivial, ⟨by rw [ht]; exact hP, hD⟩⟩, hS.F ht⟩) hS.2.2 d_String_checkIndex_9
  · show W _ _ _ _ _ _ _ _ _ _ _ _ _ _ _ (F0 m _ ls (.ref qf_2 :: _))
    obtain ⟨u_5, hu_5, hf⟩ := bd_ hf
    refine CALLWi (va_runS (As := [.int a1, .int a2, .ref qf_2]) (rest := []) ⟨hx, hb, hml, hown, hg⟩ (c_Preconditions_checkIndexr l G K a1 a2 qf_2 _ u_5  hu_5) (va_cwS 3 hg (gS m_1 m_2 m_3 m_4) rfl rfl rfl (by decide +kernel) ⟨Nat.le_of_ble_eq_true rfl, Nat.le_of_ble_eq_true rfl⟩) ⟨PC_b, PC_p hE hS hAb hP hD⟩ rfl rfl hl.1 rfl (lv_room (Nat.le_of_ble_eq_true rfl)) d_String_checkIndex_5 ⟨Nat.zero_le _, Nat.zero_le _⟩) hP hD hS hA (fun H locs hP hD hS => ?_)
    have hP : va_P (gD G) vwCl (w_Preconditions_checkIndexn G ) H := hP
    have hD : va_D A (w_Preconditions_checkIndexn G ) := hD
    refine lv_pop hx hb d_String_checkIndex_8 rfl ?_
    obtain rfl := Option.some.inj hf
    rw [← hQ]
    exact W.vret hx hb hr (fun t9 ht hW => ⟨⟨(), rfl, trivial, ⟨by rw [ht]; exact hP, hD⟩⟩, hS.F ht⟩) hS.2.2 d_String_checkIndex_9
theorem d_StringLatin1_canEncode_0 : decode cd_StringLatin1_canEncode 0 = .ok (.iload_n 0, 1) := by decide +kernel
theorem d_StringLatin1_canEncode_1 : decode cd_StringLatin1_canEncode 1 = .ok (.ifCond .lt 14, 3) := by decide +kernel
theorem d_StringLatin1_canEncode_4 : decode cd_StringLatin1_canEncode 4 = .ok (.iload_n 0, 1) := by decide +kernel
theorem d_StringLatin1_canEncode_5 : decode cd_StringLatin1_canEncode 5 = .ok (.sipush 255, 3) := by decide +kernel
theorem d_StringLatin1_canEncode_8 : decode cd_StringLatin1_canEncode 8 = .ok (.if_icmp .gt 7, 3) := by decide +kernel
theorem d_StringLatin1_canEncode_11 : decode cd_StringLatin1_canEncode 11 = .ok (.iconst 1, 1) := by decide +kernel
theorem d_StringLatin1_canEncode_12 : decode cd_StringLatin1_canEncode 12 = .ok (.goto 4, 3) := by decide +kernel
theorem d_StringLatin1_canEncode_15 : decode cd_StringLatin1_canEncode 15 = .ok (.iconst 0, 1) := by decide +kernel
theorem d_StringLatin1_canEncode_16 : decode cd_StringLatin1_canEncode 16 = .ok (.ireturn, 1) := by decide +kernel
def f_StringLatin1_canEncode (a1 : Int32) : Option Int32 :=
  (if a1 < 0 then some (0 : Int32) else (if (255 : Int32) < a1 then some (0 : Int32) else some (1 : Int32)))
set_option maxHeartbeats 4000000 in
set_option maxRecDepth 100000 in
theorem c_StringLatin1_canEncode (l : Launch) (G : Gt) (K : Nat) (a1 : Int32) (sz : Nat) (res : Int32)   (hf : f_StringLatin1_canEncode a1 = some res) : Met l y_StringLatin1_canEncode (.code y_StringLatin1_canEncode cd_StringLatin1_canEncode 1 (some .boolean) :: gw) { frames := 0, cells := 0, slots := 0, locals := 0 } (PC G ([.int a1] : List Value) sz (w_Preconditions_checkIndexn G )) (QZ G res (va_A (w_Preconditions_checkIndexn G ) sz) (w_Preconditions_checkIndexn G )) 0 0 (va_A (w_Preconditions_checkIndexn G ) sz) := by
  refine Met.ofW (cc := cd_StringLatin1_canEncode) (maxL := 1) (ret := (some .boolean)) (by decide) rfl ?_
  intro p e s m args below meth c s₁ B hml hv
  obtain ⟨rfl, hsz, hP, hE, hD0⟩ := hv
  have hx := B.exec
  have hb := B.bytes
  have hr := B.returns
  have hts := atoms_spec (ws := (.code y_StringLatin1_canEncode cd_StringLatin1_canEncode 1 (some .boolean) :: gw)) B.pre
  have hg : ∀ w ∈ gw, w.before _ s = true := fun w h => hts w (List.mem_cons_of_mem _ h)
  have hown : s.vm.findClass R_StringLatin1 = some m.cls := findClass_of_methodNamed B.named
  have hlocks := B.notSynchronized
  subst hsz
  have hK := hE.K
  have hD := hD0.self (sz := s.heap.size)
  have hAb := hE.ab hD0
  obtain ⟨Q, hQ⟩ : ∃ Q, MQ below (QZ G res (va_A (w_Preconditions_checkIndexn G ) s.heap.size) (w_Preconditions_checkIndexn G )) ([.int a1] : List Value).toArray s 0 0 (va_A (w_Preconditions_checkIndexn G ) s.heap.size) = Q := ⟨_, rfl⟩
  show W p l e { frames := 0, cells := 0, slots := 0, locals := 0 } s m ([.int a1] : List Value).toArray below meth c s.heap [] 0 0 (MQ below (QZ G res (va_A (w_Preconditions_checkIndexn G ) s.heap.size) (w_Preconditions_checkIndexn G )) ([.int a1] : List Value).toArray s 0 0 (va_A (w_Preconditions_checkIndexn G ) s.heap.size)) _
  rw [hQ]
  have hA : ∀ q : Nat, s.heap.size ≤ q → va_A (w_Preconditions_checkIndexn G ) s.heap.size q := fun q h => Or.inr h
  obtain ⟨A, hAe⟩ : ∃ A, va_A (w_Preconditions_checkIndexn G ) s.heap.size = A := ⟨_, rfl⟩
  rw [hAe] at hA hD hAb hQ
  have hS : va_S A s.heap s.heap [] := va_S.rf
  have hl := lv_entry (([.int a1] : List Value)) (n := 1) (Nat.le_of_ble_eq_true rfl)
  rw [lg_entry_eq]
  generalize (lg_sl (([.int a1] : List Value)) ++ List.replicate (1 - (lg_sl (([.int a1] : List Value))).length) Slot.unset).toArray = ls at hl ⊢
  have hl : lv_has ls 1 [(0, .int a1)] := hl
  unfold f_StringLatin1_canEncode at hf
  refine lv_iload_n hx hb d_StringLatin1_canEncode_0 rfl (lv_at hl 0 rfl) ?_
  refine lv_if_lt (tgt := 15) hx hb d_StringLatin1_canEncode_1 (by decide) (fun c_1 => ?_) (fun c_1 => ?_)
  · have hf := ip_ c_1 hf
    refine lv_iconst (v := 0) hx hb d_StringLatin1_canEncode_15 (by decide) ?_
    obtain rfl := Option.some.inj hf
    rw [← hQ]
    exact W.zret (v := (0 : Int32)) hx hb hr (bl_n bl_0) (fun t9 ht hW => ⟨⟨(0 : Int32), (), rfl, ⟨rfl, bl_0⟩, ⟨by rw [ht]; exact hP, hD⟩⟩, hS.F ht⟩) hS.2.2 d_StringLatin1_canEncode_16
  · have hf := in_ c_1 hf
    refine lv_iload_n hx hb d_StringLatin1_canEncode_4 rfl (lv_at hl 0 rfl) ?_
    refine lv_sipush (v := 255) hx hb d_StringLatin1_canEncode_5 (by decide) ?_
    refine lv_icmp_gt (tgt := 15) hx hb d_StringLatin1_canEncode_8 (by decide) (fun c_8 => ?_) (fun c_8 => ?_)
    · have hf := ip_ c_8 hf
      refine lv_iconst (v := 0) hx hb d_StringLatin1_canEncode_15 (by decide) ?_
      obtain rfl := Option.some.inj hf
      rw [← hQ]
      exact W.zret (v := (0 : Int32)) hx hb hr (bl_n bl_0) (fun t9 ht hW => ⟨⟨(0 : Int32), (), rfl, ⟨rfl, bl_0⟩, ⟨by rw [ht]; exact hP, hD⟩⟩, hS.F ht⟩) hS.2.2 d_StringLatin1_canEncode_16
    · have hf := in_ c_8 hf
      refine lv_iconst (v := 1) hx hb d_StringLatin1_canEncode_11 (by decide) ?_
      refine lv_goto (tgt := 16) hx hb d_StringLatin1_canEncode_12 (by decide) ?_
      obtain rfl := Option.some.inj hf
      rw [← hQ]
      exact W.zret (v := (1 : Int32)) hx hb hr (bl_n bl_1) (fun t9 ht hW => ⟨⟨(1 : Int32), (), rfl, ⟨rfl, bl_1⟩, ⟨by rw [ht]; exact hP, hD⟩⟩, hS.F ht⟩) hS.2.2 d_StringLatin1_canEncode_16
theorem d_StringLatin1_indexOfChar_0 : decode cd_StringLatin1_indexOfChar 0 = .ok (.iload_n 1, 1) := by decide +kernel
theorem d_StringLatin1_indexOfChar_1 : decode cd_StringLatin1_indexOfChar 1 = .ok (.i2b, 1) := by decide +kernel
theorem d_StringLatin1_indexOfChar_2 : decode cd_StringLatin1_indexOfChar 2 = .ok (.istore 4, 2) := by decide +kernel
theorem d_StringLatin1_indexOfChar_4 : decode cd_StringLatin1_indexOfChar 4 = .ok (.iload_n 2, 1) := by decide +kernel
theorem d_StringLatin1_indexOfChar_5 : decode cd_StringLatin1_indexOfChar 5 = .ok (.istore 5, 2) := by decide +kernel
theorem d_StringLatin1_indexOfChar_7 : decode cd_StringLatin1_indexOfChar 7 = .ok (.iload 5, 2) := by decide +kernel
theorem d_StringLatin1_indexOfChar_9 : decode cd_StringLatin1_indexOfChar 9 = .ok (.iload_n 3, 1) := by decide +kernel
theorem d_StringLatin1_indexOfChar_10 : decode cd_StringLatin1_indexOfChar 10 = .ok (.if_icmp .ge 21, 3) := by decide +kernel
theorem d_StringLatin1_indexOfChar_13 : decode cd_StringLatin1_indexOfChar 13 = .ok (.aload_n 0, 1) := by decide +kernel
theorem d_StringLatin1_indexOfChar_14 : decode cd_StringLatin1_indexOfChar 14 = .ok (.iload 5, 2) := by decide +kernel
theorem d_StringLatin1_indexOfChar_16 : decode cd_StringLatin1_indexOfChar 16 = .ok (.baload, 1) := by decide +kernel
theorem d_StringLatin1_indexOfChar_17 : decode cd_StringLatin1_indexOfChar 17 = .ok (.iload 4, 2) := by decide +kernel
theorem d_StringLatin1_indexOfChar_19 : decode cd_StringLatin1_indexOfChar 19 = .ok (.if_icmp .ne 6, 3) := by decide +kernel
theorem d_StringLatin1_indexOfChar_22 : decode cd_StringLatin1_indexOfChar 22 = .ok (.iload 5, 2) := by decide +kernel
theorem d_StringLatin1_indexOfChar_24 : decode cd_StringLatin1_indexOfChar 24 = .ok (.ireturn, 1) := by decide +kernel
theorem d_StringLatin1_indexOfChar_25 : decode cd_StringLatin1_indexOfChar 25 = .ok (.iinc 5 1, 3) := by decide +kernel
theorem d_StringLatin1_indexOfChar_28 : decode cd_StringLatin1_indexOfChar 28 = .ok (.goto (-21), 3) := by decide +kernel
theorem d_StringLatin1_indexOfChar_31 : decode cd_StringLatin1_indexOfChar 31 = .ok (.iconst (-1), 1) := by decide +kernel
theorem d_StringLatin1_indexOfChar_32 : decode cd_StringLatin1_indexOfChar 32 = .ok (.ireturn, 1) := by decide +kernel
def b_StringLatin1_indexOfChar_7 (a1 : Nat) (a4 : Int32) (x4 : Int32) (rec_7 : Int32 → Option Int32) (z7 : Int32) : Option Int32 :=
  (if a4 ≤ z7 then some (-1 : Int32) else (if inB z7 (sLen.getD a1 0) = true then (if ((sByt.getD a1 []).getD z7.toNatClampNeg 0) = x4 then some z7 else rec_7 (z7 + 1)) else none))
def f_StringLatin1_indexOfChar (K : Nat) (a1 : Nat) (a2 : Int32) (a3 : Int32) (a4 : Int32) : Option Int32 :=
  lp_ (b_StringLatin1_indexOfChar_7 a1 a4 a2.toInt8.toInt32) K a3
set_option maxHeartbeats 4000000 in
set_option maxRecDepth 100000 in
theorem c_StringLatin1_indexOfChar (l : Launch) (G : Gt) (K : Nat) (a1 : Nat) (a2 : Int32) (a3 : Int32) (a4 : Int32) (sz : Nat) (res : Int32)  (hr_a1 : a1 < nS) (hf : f_StringLatin1_indexOfChar K a1 a2 a3 a4 = some res) : Met l y_StringLatin1_indexOfChar (.code y_StringLatin1_indexOfChar cd_StringLatin1_indexOfChar 6 (some .int) :: gw) { frames := 0, cells := 0, slots := 0, locals := 0 } (PC G ([.ref (gU G a1), .int a2, .int a3, .int a4] : List Value) sz (w_Preconditions_checkIndexn G )) (QI G res (va_A (w_Preconditions_checkIndexn G ) sz) (w_Preconditions_checkIndexn G )) 0 0 (va_A (w_Preconditions_checkIndexn G ) sz) := by
  refine Met.ofW (cc := cd_StringLatin1_indexOfChar) (maxL := 6) (ret := (some .int)) (by decide) rfl ?_
  intro p e s m args below meth c s₁ B hml hv
  obtain ⟨rfl, hsz, hP, hE, hD0⟩ := hv
  have hx := B.exec
  have hb := B.bytes
  have hr := B.returns
  have hts := atoms_spec (ws := (.code y_StringLatin1_indexOfChar cd_StringLatin1_indexOfChar 6 (some .int) :: gw)) B.pre
  have hg : ∀ w ∈ gw, w.before _ s = true := fun w h => hts w (List.mem_cons_of_mem _ h)
  have hown : s.vm.findClass R_StringLatin1 = some m.cls := findClass_of_methodNamed B.named
  have hlocks := B.notSynchronized
  subst hsz
  have hK := hE.K
  have hD := hD0.self (sz := s.heap.size)
  have hAb := hE.ab hD0
  obtain ⟨Q, hQ⟩ : ∃ Q, MQ below (QI G res (va_A (w_Preconditions_checkIndexn G ) s.heap.size) (w_Preconditions_checkIndexn G )) ([.ref (gU G a1), .int a2, .int a3, .int a4] : List Value).toArray s 0 0 (va_A (w_Preconditions_checkIndexn G ) s.heap.size) = Q := ⟨_, rfl⟩
  show W p l e { frames := 0, cells := 0, slots := 0, locals := 0 } s m ([.ref (gU G a1), .int a2, .int a3, .int a4] : List Value).toArray below meth c s.heap [] 0 0 (MQ below (QI G res (va_A (w_Preconditions_checkIndexn G ) s.heap.size) (w_Preconditions_checkIndexn G )) ([.ref (gU G a1), .int a2, .int a3, .int a4] : List Value).toArray s 0 0 (va_A (w_Preconditions_checkIndexn G ) s.heap.size)) _
  rw [hQ]
  have hA : ∀ q : Nat, s.heap.size ≤ q → va_A (w_Preconditions_checkIndexn G ) s.heap.size q := fun q h => Or.inr h
  obtain ⟨A, hAe⟩ : ∃ A, va_A (w_Preconditions_checkIndexn G ) s.heap.size = A := ⟨_, rfl⟩
  rw [hAe] at hA hD hAb hQ
  have hS : va_S A s.heap s.heap [] := va_S.rf
  have hl := lv_entry (([.ref (gU G a1), .int a2, .int a3, .int a4] : List Value)) (n := 6) (Nat.le_of_ble_eq_true rfl)
  rw [lg_entry_eq]
  generalize (lg_sl (([.ref (gU G a1), .int a2, .int a3, .int a4] : List Value)) ++ List.replicate (6 - (lg_sl (([.ref (gU G a1), .int a2, .int a3, .int a4] : List Value))).length) Slot.unset).toArray = ls at hl ⊢
  have hl : lv_has ls 6 [(0, .ref (gU G a1)), (1, .int a2), (2, .int a3), (3, .int a4)] := hl
  have W_7 : ∀ (x4 : Int32)  (n_7 : Nat) (z7 : Int32) , lp_ (b_StringLatin1_indexOfChar_7 a1 a4 x4) n_7 z7 = some res → ∀ (H : Heap) (locs : List Loc) (ls : Array Slot), va_P (gD G) vwCl (w_Preconditions_checkIndexn G ) H → va_D A (w_Preconditions_checkIndexn G ) → va_S A s.heap H locs → lv_has ls 6 [(0, .ref (gU G a1)), (3, .int a4), (4, .int x4), (5, .int z7)] → W p l e { frames := 0, cells := 0, slots := 0, locals := 0 } s m ([.ref (gU G a1), .int a2, .int a3, .int a4] : List Value).toArray below meth c H locs 0 0 Q (F0 m 7 ls []) := by
    intro x4 n_7
    induction n_7 with
    | zero =>
      intro z7  hf
      cases hf
    | succ n_7 ih_7 =>
      intro z7  hf H locs ls hP hD hS hl
      have hf : b_StringLatin1_indexOfChar_7 a1 a4 x4 (lp_ (b_StringLatin1_indexOfChar_7 a1 a4 x4) n_7) z7 = some res := hf
      generalize lp_ (b_StringLatin1_indexOfChar_7 a1 a4 x4) n_7 = rec_7 at hf ih_7
      unfold b_StringLatin1_indexOfChar_7 at hf
      refine lv_iload hx hb d_StringLatin1_indexOfChar_7 (lv_at hl 3 rfl) ?_
      refine lv_iload_n hx hb d_StringLatin1_indexOfChar_9 rfl (lv_at hl 1 rfl) ?_
      refine lv_icmp_ge (tgt := 31) hx hb d_StringLatin1_indexOfChar_10 (by decide) (fun c_10 => ?_) (fun c_10 => ?_)
      · have hf := ip_ c_10 hf
        refine lv_iconst (v := -1) hx hb d_StringLatin1_indexOfChar_31 (by decide) ?_
        obtain rfl := Option.some.inj hf
        rw [← hQ]
        exact W.iret (v := (-1 : Int32)) hx hb hr (fun t9 ht hW => ⟨⟨(-1 : Int32), (), rfl, rfl, ⟨by rw [ht]; exact hP, hD⟩⟩, hS.F ht⟩) hS.2.2 d_StringLatin1_indexOfChar_32
      · have hf := in_ c_10 hf
        refine lv_aload_n hx hb d_StringLatin1_indexOfChar_13 rfl (lv_at hl 0 rfl) ?_
        refine lv_iload hx hb d_StringLatin1_indexOfChar_14 (lv_at hl 3 rfl) ?_
        obtain ⟨g_16, hf⟩ := gd_ hf
        refine va_tb hx hb ((hE.vs hAb).1 a1 hr_a1).2.2.2 hS (inB_in g_16) (v := .int ((sByt.getD a1 []).getD z7.toNatClampNeg 0)) rfl d_StringLatin1_indexOfChar_16 ?_
        refine lv_iload hx hb d_StringLatin1_indexOfChar_17 (lv_at hl 2 rfl) ?_
        refine lv_icmp_ne (tgt := 25) hx hb d_StringLatin1_indexOfChar_19 (by decide) (fun c_19 => ?_) (fun c_19 => ?_)
        · have hf := in_ c_19 hf
          refine lv_iinc (v := (z7 + 1)) (lv' := [(5, .int (z7 + 1)), (0, .ref (gU G a1)), (3, .int a4), (4, .int x4)]) hx hb d_StringLatin1_indexOfChar_25 hl (k := 3) rfl rfl (by decide) rfl (fun ls hl => ?_)
          refine lv_goto (tgt := 7) hx hb d_StringLatin1_indexOfChar_28 (by decide) ?_
          exact ih_7 (z7 + 1)  hf _ _ _ hP hD hS (lv_sub hl [1, 2, 3, 0] rfl)
        · have hf := ip_ c_19 hf
          refine lv_iload hx hb d_StringLatin1_indexOfChar_22 (lv_at hl 3 rfl) ?_
          obtain rfl := Option.some.inj hf
          rw [← hQ]
          exact W.iret (v := z7) hx hb hr (fun t9 ht hW => ⟨⟨z7, (), rfl, rfl, ⟨by rw [ht]; exact hP, hD⟩⟩, hS.F ht⟩) hS.2.2 d_StringLatin1_indexOfChar_24
  unfold f_StringLatin1_indexOfChar at hf
  refine lv_iload_n hx hb d_StringLatin1_indexOfChar_0 rfl (lv_at hl 1 rfl) ?_
  refine lv_i2b (v := a2.toInt8.toInt32) hx hb d_StringLatin1_indexOfChar_1 rfl ?_
  refine lv_istore (lv' := [(4, .int a2.toInt8.toInt32), (0, .ref (gU G a1)), (1, .int a2), (2, .int a3), (3, .int a4)]) hx hb d_StringLatin1_indexOfChar_2 hl (by decide) rfl (fun ls hl => ?_)
  refine lv_iload_n hx hb d_StringLatin1_indexOfChar_4 rfl (lv_at hl 3 rfl) ?_
  refine lv_istore (lv' := [(5, .int a3), (4, .int a2.toInt8.toInt32), (0, .ref (gU G a1)), (1, .int a2), (2, .int a3), (3, .int a4)]) hx hb d_StringLatin1_indexOfChar_5 hl (by decide) rfl (fun ls hl => ?_)
  exact W_7 a2.toInt8.toInt32  K a3  hf _ _ _ hP hD hS (lv_sub hl [2, 5, 1, 0] rfl)
theorem d_StringLatin1_indexOf_0 : decode cd_StringLatin1_indexOf 0 = .ok (.iload_n 1, 1) := by decide +kernel
theorem d_StringLatin1_indexOf_1 : decode cd_StringLatin1_indexOf 1 = .ok (.invokestatic 88, 3) := by decide +kernel
theorem d_StringLatin1_indexOf_4 : decode cd_StringLatin1_indexOf 4 = .ok (.ifCond .ne 5, 3) := by decide +kernel
theorem d_StringLatin1_indexOf_7 : decode cd_StringLatin1_indexOf 7 = .ok (.iconst (-1), 1) := by decide +kernel
theorem d_StringLatin1_indexOf_8 : decode cd_StringLatin1_indexOf 8 = .ok (.ireturn, 1) := by decide +kernel
theorem d_StringLatin1_indexOf_9 : decode cd_StringLatin1_indexOf 9 = .ok (.iload_n 2, 1) := by decide +kernel
theorem d_StringLatin1_indexOf_10 : decode cd_StringLatin1_indexOf 10 = .ok (.iconst 0, 1) := by decide +kernel
theorem d_StringLatin1_indexOf_11 : decode cd_StringLatin1_indexOf 11 = .ok (.invokestatic 92, 3) := by decide +kernel
theorem d_StringLatin1_indexOf_14 : decode cd_StringLatin1_indexOf 14 = .ok (.istore_n 2, 1) := by decide +kernel
theorem d_StringLatin1_indexOf_15 : decode cd_StringLatin1_indexOf 15 = .ok (.iload_n 3, 1) := by decide +kernel
theorem d_StringLatin1_indexOf_16 : decode cd_StringLatin1_indexOf 16 = .ok (.aload_n 0, 1) := by decide +kernel
theorem d_StringLatin1_indexOf_17 : decode cd_StringLatin1_indexOf 17 = .ok (.arraylength, 1) := by decide +kernel
theorem d_StringLatin1_indexOf_18 : decode cd_StringLatin1_indexOf 18 = .ok (.invokestatic 38, 3) := by decide +kernel
theorem d_StringLatin1_indexOf_21 : decode cd_StringLatin1_indexOf 21 = .ok (.istore_n 3, 1) := by decide +kernel
theorem d_StringLatin1_indexOf_22 : decode cd_StringLatin1_indexOf 22 = .ok (.iload_n 2, 1) := by decide +kernel
theorem d_StringLatin1_indexOf_23 : decode cd_StringLatin1_indexOf 23 = .ok (.iload_n 3, 1) := by decide +kernel
theorem d_StringLatin1_indexOf_24 : decode cd_StringLatin1_indexOf 24 = .ok (.if_icmp .lt 5, 3) := by decide +kernel
theorem d_StringLatin1_indexOf_27 : decode cd_StringLatin1_indexOf 27 = .ok (.iconst (-1), 1) := by decide +kernel
theorem d_StringLatin1_indexOf_28 : decode cd_StringLatin1_indexOf 28 = .ok (.ireturn, 1) := by decide +kernel
theorem d_StringLatin1_indexOf_29 : decode cd_StringLatin1_indexOf 29 = .ok (.aload_n 0, 1) := by decide +kernel
theorem d_StringLatin1_indexOf_30 : decode cd_StringLatin1_indexOf 30 = .ok (.iload_n 1, 1) := by decide +kernel
theorem d_StringLatin1_indexOf_31 : decode cd_StringLatin1_indexOf 31 = .ok (.iload_n 2, 1) := by decide +kernel
theorem d_StringLatin1_indexOf_32 : decode cd_StringLatin1_indexOf 32 = .ok (.iload_n 3, 1) := by decide +kernel
theorem d_StringLatin1_indexOf_33 : decode cd_StringLatin1_indexOf 33 = .ok (.invokestatic 95, 3) := by decide +kernel
theorem d_StringLatin1_indexOf_36 : decode cd_StringLatin1_indexOf 36 = .ok (.ireturn, 1) := by decide +kernel
theorem m_5 : Cond.methodLink R_StringLatin1 88 y_StringLatin1_canEncode ∈ gw := gm (i := 493) (by decide +kernel) (by decide +kernel)
theorem m_6 : Cond.static y_StringLatin1_canEncode ∈ gw := gm (i := 494) (by decide +kernel) (by decide +kernel)
theorem m_7 : Cond.initialized R_StringLatin1 ∈ gw := gm (i := 95) (by decide +kernel) (by decide +kernel)
set_option maxRecDepth 100000 in
theorem m_8 : Cond.code y_StringLatin1_canEncode cd_StringLatin1_canEncode 1 (some .boolean) ∈ gw := gm (i := 495) rfl rfl
theorem m_9 : Cond.methodLink R_StringLatin1 92 Lib.Math.max.name ∈ gw := gm (i := 496) (by decide +kernel) (by decide +kernel)
theorem m_10 : Cond.static Lib.Math.max.name ∈ gw := gm (i := 115) (by decide +kernel) (by decide +kernel)
theorem m_11 : Cond.initialized "java/lang/Math" ∈ gw := gm (i := 84) (by decide +kernel) (by decide +kernel)
set_option maxRecDepth 100000 in
theorem m_12 : Cond.code Lib.Math.max.name Lib.Math.max.code 2 (some .int) ∈ gw := gm (i := 116) rfl rfl
theorem m_13 : Cond.methodLink R_StringLatin1 38 Lib.Math.min.name ∈ gw := gm (i := 497) (by decide +kernel) (by decide +kernel)
theorem m_14 : Cond.static Lib.Math.min.name ∈ gw := gm (i := 442) (by decide +kernel) (by decide +kernel)
set_option maxRecDepth 100000 in
theorem m_15 : Cond.code Lib.Math.min.name Lib.Math.min.code 2 (some .int) ∈ gw := gm (i := 443) rfl rfl
theorem m_16 : Cond.methodLink R_StringLatin1 95 y_StringLatin1_indexOfChar ∈ gw := gm (i := 498) (by decide +kernel) (by decide +kernel)
theorem m_17 : Cond.static y_StringLatin1_indexOfChar ∈ gw := gm (i := 499) (by decide +kernel) (by decide +kernel)
set_option maxRecDepth 100000 in
theorem m_18 : Cond.code y_StringLatin1_indexOfChar cd_StringLatin1_indexOfChar 6 (some .int) ∈ gw := gm (i := 500) rfl rfl
def f_StringLatin1_indexOf (K : Nat) (a1 : Nat) (a2 : Int32) (a3 : Int32) (a4 : Int32) : Option Int32 :=
  ((f_StringLatin1_canEncode a2).bind fun u_1 => (if u_1 = 0 then some (-1 : Int32) else (if (if a3 < (0 : Int32) then (0 : Int32) else a3) < (if (nI (sLen.getD a1 0)) < a4 then (nI (sLen.getD a1 0)) else a4) then ((f_StringLatin1_indexOfChar K a1 a2 (if a3 < (0 : Int32) then (0 : Int32) else a3) (if (nI (sLen.getD a1 0)) < a4 then (nI (sLen.getD a1 0)) else a4)).bind fun u_33 => some u_33) else some (-1 : Int32))))
set_option maxHeartbeats 4000000 in
set_option maxRecDepth 100000 in
theorem c_StringLatin1_indexOf (l : Launch) (G : Gt) (K : Nat) (a1 : Nat) (a2 : Int32) (a3 : Int32) (a4 : Int32) (sz : Nat) (res : Int32)  (hr_a1 : a1 < nS) (hf : f_StringLatin1_indexOf K a1 a2 a3 a4 = some res) : Met l y_StringLatin1_indexOf (.code y_StringLatin1_indexOf cd_StringLatin1_indexOf 4 (some .int) :: gw) { frames := 1, cells := 0, slots := 0, locals := 40 } (PC G ([.ref (gU G a1), .int a2, .int a3, .int a4] : List Value) sz (w_Preconditions_checkIndexn G )) (QI G res (va_A (w_Preconditions_checkIndexn G ) sz) (w_Preconditions_checkIndexn G )) 0 0 (va_A (w_Preconditions_checkIndexn G ) sz) := by
  refine Met.ofW (cc := cd_StringLatin1_indexOf) (maxL := 4) (ret := (some .int)) (by decide) rfl ?_
  intro p e s m args below meth c s₁ B hml hv
  obtain ⟨rfl, hsz, hP, hE, hD0⟩ := hv
  have hx := B.exec
  have hb := B.bytes
  have hr := B.returns
  have hts := atoms_spec (ws := (.code y_StringLatin1_indexOf cd_StringLatin1_indexOf 4 (some .int) :: gw)) B.pre
  have hg : ∀ w ∈ gw, w.before _ s = true := fun w h => hts w (List.mem_cons_of_mem _ h)
  have hown : s.vm.findClass R_StringLatin1 = some m.cls := findClass_of_methodNamed B.named
  have hlocks := B.notSynchronized
  subst hsz
  have hK := hE.K
  have hD := hD0.self (sz := s.heap.size)
  have hAb := hE.ab hD0
  obtain ⟨Q, hQ⟩ : ∃ Q, MQ below (QI G res (va_A (w_Preconditions_checkIndexn G ) s.heap.size) (w_Preconditions_checkIndexn G )) ([.ref (gU G a1), .int a2, .int a3, .int a4] : List Value).toArray s 0 0 (va_A (w_Preconditions_checkIndexn G ) s.heap.size) = Q := ⟨_, rfl⟩
  show W p l e { frames := 1, cells := 0, slots := 0, locals := 40 } s m ([.ref (gU G a1), .int a2, .int a3, .int a4] : List Value).toArray below meth c s.heap [] 0 0 (MQ below (QI G res (va_A (w_Preconditions_checkIndexn G ) s.heap.size) (w_Preconditions_checkIndexn G )) ([.ref (gU G a1), .int a2, .int a3, .int a4] : List Value).toArray s 0 0 (va_A (w_Preconditions_checkIndexn G ) s.heap.size)) _
  rw [hQ]
  have hA : ∀ q : Nat, s.heap.size ≤ q → va_A (w_Preconditions_checkIndexn G ) s.heap.size q := fun q h => Or.inr h
  obtain ⟨A, hAe⟩ : ∃ A, va_A (w_Preconditions_checkIndexn G ) s.heap.size = A := ⟨_, rfl⟩
  rw [hAe] at hA hD hAb hQ
  have hS : va_S A s.heap s.heap [] := va_S.rf
  have hl := lv_entry (([.ref (gU G a1), .int a2, .int a3, .int a4] : List Value)) (n := 4) (Nat.le_of_ble_eq_true rfl)
  rw [lg_entry_eq]
  generalize (lg_sl (([.ref (gU G a1), .int a2, .int a3, .int a4] : List Value)) ++ List.replicate (4 - (lg_sl (([.ref (gU G a1), .int a2, .int a3, .int a4] : List Value))).length) Slot.unset).toArray = ls at hl ⊢
  have hl : lv_has ls 4 [(0, .ref (gU G a1)), (1, .int a2), (2, .int a3), (3, .int a4)] := hl
  unfold f_StringLatin1_indexOf at hf
  refine lv_iload_n hx hb d_StringLatin1_indexOf_0 rfl (lv_at hl 1 rfl) ?_
  obtain ⟨u_1, hu_1, hf⟩ := bd_ hf
  refine CALLWz (va_runS (As := [.int a2]) (rest := []) ⟨hx, hb, hml, hown, hg⟩ (c_StringLatin1_canEncode l G K a2 _ u_1  hu_1) (va_cwS 1 hg (gS m_5 m_6 m_7 m_8) rfl rfl rfl (by decide +kernel) ⟨Nat.le_of_ble_eq_true rfl, Nat.le_of_ble_eq_true rfl⟩) ⟨PC_b, PC_p hE hS hAb hP hD⟩ rfl rfl hl.1 rfl (lv_room (Nat.le_of_ble_eq_true rfl)) d_StringLatin1_indexOf_1 ⟨Nat.zero_le _, Nat.zero_le _⟩) hP hD hS hA (fun bu_1 H locs hP hD hS => ?_)
  have hP : va_P (gD G) vwCl (w_Preconditions_checkIndexn G ) H := hP
  have hD : va_D A (w_Preconditions_checkIndexn G ) := hD
  refine lv_if_ne (tgt := 9) hx hb d_StringLatin1_indexOf_4 (by decide) (fun c_4 => ?_) (fun c_4 => ?_)
  · have hf := in_ c_4 hf
    refine lv_iload_n hx hb d_StringLatin1_indexOf_9 rfl (lv_at hl 2 rfl) ?_
    refine lv_iconst (v := 0) hx hb d_StringLatin1_indexOf_10 (by decide) ?_
    refine va_mmax hx hb (hml.trans hl.1.symm) hown (hg _ m_9) (hg _ m_10) (hg _ m_11) (hg _ m_12) (Nat.le_of_ble_eq_true rfl) (Nat.le_of_ble_eq_true rfl) (Nat.zero_le _) (Nat.zero_le _) d_StringLatin1_indexOf_11 ?_
    refine lv_istore_n (lv' := [(2, .int (if a3 < (0 : Int32) then (0 : Int32) else a3)), (0, .ref (gU G a1)), (1, .int a2), (3, .int a4)]) hx hb d_StringLatin1_indexOf_14 rfl hl (by decide) rfl (fun ls hl => ?_)
    refine lv_iload_n hx hb d_StringLatin1_indexOf_15 rfl (lv_at hl 3 rfl) ?_
    refine lv_aload_n hx hb d_StringLatin1_indexOf_16 rfl (lv_at hl 1 rfl) ?_
    refine va_tlen hx hb ((hE.vs hAb).1 a1 hr_a1).2.2.2 hS (v := nI (sLen.getD a1 0)) rfl d_StringLatin1_indexOf_17 ?_
    refine va_mmin hx hb (hml.trans hl.1.symm) hown (hg _ m_13) (hg _ m_14) (hg _ m_11) (hg _ m_15) (Nat.le_of_ble_eq_true rfl) (Nat.le_of_ble_eq_true rfl) (Nat.zero_le _) (Nat.zero_le _) d_StringLatin1_indexOf_18 ?_
    refine lv_istore_n (lv' := [(3, .int (if (nI (sLen.getD a1 0)) < a4 then (nI (sLen.getD a1 0)) else a4)), (2, .int (if a3 < (0 : Int32) then (0 : Int32) else a3)), (0, .ref (gU G a1)), (1, .int a2)]) hx hb d_StringLatin1_indexOf_21 rfl hl (by decide) rfl (fun ls hl => ?_)
    refine lv_iload_n hx hb d_StringLatin1_indexOf_22 rfl (lv_at hl 1 rfl) ?_
    refine lv_iload_n hx hb d_StringLatin1_indexOf_23 rfl (lv_at hl 0 rfl) ?_
    refine lv_icmp_lt (tgt := 29) hx hb d_StringLatin1_indexOf_24 (by decide) (fun c_24 => ?_) (fun c_24 => ?_)
    · have hf := ip_ c_24 hf
      refine lv_aload_n hx hb d_StringLatin1_indexOf_29 rfl (lv_at hl 2 rfl) ?_
      refine lv_iload_n hx hb d_StringLatin1_indexOf_30 rfl (lv_at hl 3 rfl) ?_
      refine lv_iload_n hx hb d_StringLatin1_indexOf_31 rfl (lv_at hl 1 rfl) ?_
      refine lv_iload_n hx hb d_StringLatin1_indexOf_32 rfl (lv_at hl 0 rfl) ?_
      obtain ⟨u_33, hu_33, hf⟩ := bd_ hf
      refine CALLWi (va_runS (As := [.ref (gU G a1), .int a2, .int (if a3 < (0 : Int32) then (0 : Int32) else a3), .int (if (nI (sLen.getD a1 0)) < a4 then (nI (sLen.getD a1 0)) else a4)]) (rest := []) ⟨hx, hb, hml, hown, hg⟩ (c_StringLatin1_indexOfChar l G K a1 a2 (if a3 < (0 : Int32) then (0 : Int32) else a3) (if (nI (sLen.getD a1 0)) < a4 then (nI (sLen.getD a1 0)) else a4) _ u_33 hr_a1 hu_33) (va_cwS 4 hg (gS m_16 m_17 m_7 m_18) rfl rfl rfl (by decide +kernel) ⟨Nat.le_of_ble_eq_true rfl, Nat.le_of_ble_eq_true rfl⟩) ⟨PC_b, PC_p hE hS hAb hP hD⟩ rfl rfl hl.1 rfl (lv_room (Nat.le_of_ble_eq_true rfl)) d_StringLatin1_indexOf_33 ⟨Nat.zero_le _, Nat.zero_le _⟩) hP hD hS hA (fun H locs hP hD hS => ?_)
      have hP : va_P (gD G) vwCl (w_Preconditions_checkIndexn G ) H := hP
      have hD : va_D A (w_Preconditions_checkIndexn G ) := hD
      obtain rfl := Option.some.inj hf
      rw [← hQ]
      exact W.iret (v := u_33) hx hb hr (fun t9 ht hW => ⟨⟨u_33, (), rfl, rfl, ⟨by rw [ht]; exact hP, hD⟩⟩, hS.F ht⟩) hS.2.2 d_StringLatin1_indexOf_36
    · have hf := in_ c_24 hf
      refine lv_iconst (v := -1) hx hb d_StringLatin1_indexOf_27 (by decide) ?_
      obtain rfl := Option.some.inj hf
      rw [← hQ]
      exact W.iret (v := (-1 : Int32)) hx hb hr (fun t9 ht hW => ⟨⟨(-1 : Int32), (), rfl, rfl, ⟨by rw [ht]; exact hP, hD⟩⟩, hS.F ht⟩) hS.2.2 d_StringLatin1_indexOf_28
  · have hf := ip_ c_4 hf
    refine lv_iconst (v := -1) hx hb d_StringLatin1_indexOf_7 (by decide) ?_
    obtain rfl := Option.some.inj hf
    rw [← hQ]
    exact W.iret (v := (-1 : Int32)) hx hb hr (fun t9 ht hW => ⟨⟨(-1 : Int32), (), rfl, rfl, ⟨by rw [ht]; exact hP, hD⟩⟩, hS.F ht⟩) hS.2.2 d_StringLatin1_indexOf_8
theorem d_StringLatin1_charAt_0 : decode cd_StringLatin1_charAt 0 = .ok (.iload_n 1, 1) := by decide +kernel
theorem d_StringLatin1_charAt_1 : decode cd_StringLatin1_charAt 1 = .ok (.aload_n 0, 1) := by decide +kernel
theorem d_StringLatin1_charAt_2 : decode cd_StringLatin1_charAt 2 = .ok (.arraylength, 1) := by decide +kernel
theorem d_StringLatin1_charAt_3 : decode cd_StringLatin1_charAt 3 = .ok (.invokestatic 9, 3) := by decide +kernel
theorem d_StringLatin1_charAt_6 : decode cd_StringLatin1_charAt 6 = .ok (.aload_n 0, 1) := by decide +kernel
theorem d_StringLatin1_charAt_7 : decode cd_StringLatin1_charAt 7 = .ok (.iload_n 1, 1) := by decide +kernel
theorem d_StringLatin1_charAt_8 : decode cd_StringLatin1_charAt 8 = .ok (.baload, 1) := by decide +kernel
theorem d_StringLatin1_charAt_9 : decode cd_StringLatin1_charAt 9 = .ok (.sipush 255, 3) := by decide +kernel
theorem d_StringLatin1_charAt_12 : decode cd_StringLatin1_charAt 12 = .ok (.iand, 1) := by decide +kernel
theorem d_StringLatin1_charAt_13 : decode cd_StringLatin1_charAt 13 = .ok (.i2c, 1) := by decide +kernel
theorem d_StringLatin1_charAt_14 : decode cd_StringLatin1_charAt 14 = .ok (.ireturn, 1) := by decide +kernel
theorem m_19 : Cond.methodLink R_StringLatin1 9 y_String_checkIndex ∈ gw := gm (i := 645) (by decide +kernel) (by decide +kernel)
theorem m_20 : Cond.static y_String_checkIndex ∈ gw := gm (i := 646) (by decide +kernel) (by decide +kernel)
theorem m_21 : Cond.initialized R_String ∈ gw := gm (i := 94) (by decide +kernel) (by decide +kernel)
set_option maxRecDepth 100000 in
theorem m_22 : Cond.code y_String_checkIndex cd_String_checkIndex 2 none ∈ gw := gm (i := 647) rfl rfl
def f_StringLatin1_charAt (a1 : Nat) (a2 : Int32) : Option Int32 :=
  ((f_String_checkIndex a2 (nI (sLen.getD a1 0))).bind fun u_3 => (if inB a2 (sLen.getD a1 0) = true then some (((((sByt.getD a1 []).getD a2.toNatClampNeg 0) &&& (255 : Int32)).toUInt32 % 65536).toInt32) else none))
set_option maxHeartbeats 4000000 in
set_option maxRecDepth 100000 in
theorem c_StringLatin1_charAt (l : Launch) (G : Gt) (K : Nat) (a1 : Nat) (a2 : Int32) (sz : Nat) (res : Int32)  (hr_a1 : a1 < nS) (hf : f_StringLatin1_charAt a1 a2 = some res) : Met l y_StringLatin1_charAt (.code y_StringLatin1_charAt cd_StringLatin1_charAt 2 (some .char) :: gw) { frames := 2, cells := 0, slots := 0, locals := 80 } (PC G ([.ref (gU G a1), .int a2] : List Value) sz (w_Preconditions_checkIndexn G )) (QI G res (va_A (w_Preconditions_checkIndexn G ) sz) (w_Preconditions_checkIndexn G )) 0 0 (va_A (w_Preconditions_checkIndexn G ) sz) := by
  refine Met.ofW (cc := cd_StringLatin1_charAt) (maxL := 2) (ret := (some .char)) (by decide) rfl ?_
  intro p e s m args below meth c s₁ B hml hv
  obtain ⟨rfl, hsz, hP, hE, hD0⟩ := hv
  have hx := B.exec
  have hb := B.bytes
  have hr := B.returns
  have hts := atoms_spec (ws := (.code y_StringLatin1_charAt cd_StringLatin1_charAt 2 (some .char) :: gw)) B.pre
  have hg : ∀ w ∈ gw, w.before _ s = true := fun w h => hts w (List.mem_cons_of_mem _ h)
  have hown : s.vm.findClass R_StringLatin1 = some m.cls := findClass_of_methodNamed B.named
  have hlocks := B.notSynchronized
  subst hsz
  have hK := hE.K
  have hD := hD0.self (sz := s.heap.size)
  have hAb := hE.ab hD0
  obtain ⟨Q, hQ⟩ : ∃ Q, MQ below (QI G res (va_A (w_Preconditions_checkIndexn G ) s.heap.size) (w_Preconditions_checkIndexn G )) ([.ref (gU G a1), .int a2] : List Value).toArray s 0 0 (va_A (w_Preconditions_checkIndexn G ) s.heap.size) = Q := ⟨_, rfl⟩
  show W p l e { frames := 2, cells := 0, slots := 0, locals := 80 } s m ([.ref (gU G a1), .int a2] : List Value).toArray below meth c s.heap [] 0 0 (MQ below (QI G res (va_A (w_Preconditions_checkIndexn G ) s.heap.size) (w_Preconditions_checkIndexn G )) ([.ref (gU G a1), .int a2] : List Value).toArray s 0 0 (va_A (w_Preconditions_checkIndexn G ) s.heap.size)) _
  rw [hQ]
  have hA : ∀ q : Nat, s.heap.size ≤ q → va_A (w_Preconditions_checkIndexn G ) s.heap.size q := fun q h => Or.inr h
  obtain ⟨A, hAe⟩ : ∃ A, va_A (w_Preconditions_checkIndexn G ) s.heap.size = A := ⟨_, rfl⟩
  rw [hAe] at hA hD hAb hQ
  have hS : va_S A s.heap s.heap [] := va_S.rf
  have hl := lv_entry (([.ref (gU G a1), .int a2] : List Value)) (n := 2) (Nat.le_of_ble_eq_true rfl)
  rw [lg_entry_eq]
  generalize (lg_sl (([.ref (gU G a1), .int a2] : List Value)) ++ List.replicate (2 - (lg_sl (([.ref (gU G a1), .int a2] : List Value))).length) Slot.unset).toArray = ls at hl ⊢
  have hl : lv_has ls 2 [(0, .ref (gU G a1)), (1, .int a2)] := hl
  unfold f_StringLatin1_charAt at hf
  refine lv_iload_n hx hb d_StringLatin1_charAt_0 rfl (lv_at hl 1 rfl) ?_
  refine lv_aload_n hx hb d_StringLatin1_charAt_1 rfl (lv_at hl 0 rfl) ?_
  refine va_tlen hx hb ((hE.vs hAb).1 a1 hr_a1).2.2.2 hS (v := nI (sLen.getD a1 0)) rfl d_StringLatin1_charAt_2 ?_
  obtain ⟨u_3, hu_3, hf⟩ := bd_ hf
  refine CALLWv (va_runS (As := [.int a2, .int (nI (sLen.getD a1 0))]) (rest := []) ⟨hx, hb, hml, hown, hg⟩ (c_String_checkIndex l G K a2 (nI (sLen.getD a1 0)) _ u_3  hu_3) (va_cwS 2 hg (gS m_19 m_20 m_21 m_22) rfl rfl rfl (by decide +kernel) ⟨Nat.le_of_ble_eq_true rfl, Nat.le_of_ble_eq_true rfl⟩) ⟨PC_b, PC_p hE hS hAb hP hD⟩ rfl rfl hl.1 rfl (lv_room (Nat.le_of_ble_eq_true rfl)) d_StringLatin1_charAt_3 ⟨Nat.zero_le _, Nat.zero_le _⟩) hP hD hS hA (fun H locs hP hD hS => ?_)
  have hP : va_P (gD G) vwCl (w_Preconditions_checkIndexn G ) H := hP
  have hD : va_D A (w_Preconditions_checkIndexn G ) := hD
  refine lv_aload_n hx hb d_StringLatin1_charAt_6 rfl (lv_at hl 0 rfl) ?_
  refine lv_iload_n hx hb d_StringLatin1_charAt_7 rfl (lv_at hl 1 rfl) ?_
  obtain ⟨g_8, hf⟩ := gd_ hf
  refine va_tb hx hb ((hE.vs hAb).1 a1 hr_a1).2.2.2 hS (inB_in g_8) (v := .int ((sByt.getD a1 []).getD a2.toNatClampNeg 0)) rfl d_StringLatin1_charAt_8 ?_
  refine lv_sipush (v := 255) hx hb d_StringLatin1_charAt_9 (by decide) ?_
  refine lv_iand hx hb d_StringLatin1_charAt_12 ?_
  refine lv_i2c (v := ((((sByt.getD a1 []).getD a2.toNatClampNeg 0) &&& (255 : Int32)).toUInt32 % 65536).toInt32) hx hb d_StringLatin1_charAt_13 rfl ?_
  obtain rfl := Option.some.inj hf
  rw [← hQ]
  exact W.zret (v := ((((sByt.getD a1 []).getD a2.toNatClampNeg 0) &&& (255 : Int32)).toUInt32 % 65536).toInt32) hx hb hr (pk_nc _) (fun t9 ht hW => ⟨⟨((((sByt.getD a1 []).getD a2.toNatClampNeg 0) &&& (255 : Int32)).toUInt32 % 65536).toInt32, (), rfl, rfl, ⟨by rw [ht]; exact hP, hD⟩⟩, hS.F ht⟩) hS.2.2 d_StringLatin1_charAt_14
theorem d_String_coder_0 : decode cd_String_coder 0 = .ok (.getstatic 38, 3) := by decide +kernel
theorem d_String_coder_3 : decode cd_String_coder 3 = .ok (.ifCond .eq 10, 3) := by decide +kernel
theorem d_String_coder_6 : decode cd_String_coder 6 = .ok (.aload_n 0, 1) := by decide +kernel
theorem d_String_coder_7 : decode cd_String_coder 7 = .ok (.getfield 15, 3) := by decide +kernel
theorem d_String_coder_10 : decode cd_String_coder 10 = .ok (.goto 4, 3) := by decide +kernel
theorem d_String_coder_13 : decode cd_String_coder 13 = .ok (.iconst 1, 1) := by decide +kernel
theorem d_String_coder_14 : decode cd_String_coder 14 = .ok (.ireturn, 1) := by decide +kernel
theorem m_23 : Cond.fieldLink R_String 38 "java/lang/String" "COMPACT_STRINGS" "Z" ∈ gw := gm (i := 480) (by decide +kernel) (by decide +kernel)
theorem m_24 : Cond.fieldLink R_String 15 "java/lang/String" "coder" "B" ∈ gw := gm (i := 1206) (by decide +kernel) (by decide +kernel)
def f_String_coder  : Option Int32 :=
  some (0 : Int32)
set_option maxHeartbeats 4000000 in
set_option maxRecDepth 100000 in
theorem c_String_coder (l : Launch) (G : Gt) (K : Nat) (t : Nat) (sz : Nat) (res : Int32)  (hr_t : t < nS) (hf : f_String_coder  = some res) : Met l y_String_coder (.code y_String_coder cd_String_coder 1 (some .byte) :: gw) { frames := 0, cells := 0, slots := 0, locals := 0 } (PC G ([.ref (gT G t)] : List Value) sz (w_Preconditions_checkIndexn G )) (QI G res (va_A (w_Preconditions_checkIndexn G ) sz) (w_Preconditions_checkIndexn G )) 0 0 (va_A (w_Preconditions_checkIndexn G ) sz) := by
  refine Met.ofW (cc := cd_String_coder) (maxL := 1) (ret := (some .byte)) (by decide) rfl ?_
  intro p e s m args below meth c s₁ B hml hv
  obtain ⟨rfl, hsz, hP, hE, hD0⟩ := hv
  have hx := B.exec
  have hb := B.bytes
  have hr := B.returns
  have hts := atoms_spec (ws := (.code y_String_coder cd_String_coder 1 (some .byte) :: gw)) B.pre
  have hg : ∀ w ∈ gw, w.before _ s = true := fun w h => hts w (List.mem_cons_of_mem _ h)
  have hown : s.vm.findClass R_String = some m.cls := findClass_of_methodNamed B.named
  have hlocks := B.notSynchronized
  subst hsz
  have hK := hE.K
  have hD := hD0.self (sz := s.heap.size)
  have hAb := hE.ab hD0
  obtain ⟨Q, hQ⟩ : ∃ Q, MQ below (QI G res (va_A (w_Preconditions_checkIndexn G ) s.heap.size) (w_Preconditions_checkIndexn G )) ([.ref (gT G t)] : List Value).toArray s 0 0 (va_A (w_Preconditions_checkIndexn G ) s.heap.size) = Q := ⟨_, rfl⟩
  show W p l e { frames := 0, cells := 0, slots := 0, locals := 0 } s m ([.ref (gT G t)] : List Value).toArray below meth c s.heap [] 0 0 (MQ below (QI G res (va_A (w_Preconditions_checkIndexn G ) s.heap.size) (w_Preconditions_checkIndexn G )) ([.ref (gT G t)] : List Value).toArray s 0 0 (va_A (w_Preconditions_checkIndexn G ) s.heap.size)) _
  rw [hQ]
  have hA : ∀ q : Nat, s.heap.size ≤ q → va_A (w_Preconditions_checkIndexn G ) s.heap.size q := fun q h => Or.inr h
  obtain ⟨A, hAe⟩ : ∃ A, va_A (w_Preconditions_checkIndexn G ) s.heap.size = A := ⟨_, rfl⟩
  rw [hAe] at hA hD hAb hQ
  have hS : va_S A s.heap s.heap [] := va_S.rf
  have hl := lv_entry (([.ref (gT G t)] : List Value)) (n := 1) (Nat.le_of_ble_eq_true rfl)
  rw [lg_entry_eq]
  generalize (lg_sl (([.ref (gT G t)] : List Value)) ++ List.replicate (1 - (lg_sl (([.ref (gT G t)] : List Value))).length) Slot.unset).toArray = ls at hl ⊢
  have hl : lv_has ls 1 [(0, .ref (gT G t))] := hl
  unfold f_String_coder at hf
  refine va_gets hx hb (hE.cs hAb) hS hown (hg _ m_23) (fun _ h9 => h9) d_String_coder_0 ?_
  refine lv_if_eq (tgt := 13) hx hb d_String_coder_3 (by decide) (fun c_3 => absurd c_3 (by decide)) (fun _ => ?_)
  refine lv_aload_n hx hb d_String_coder_6 rfl (lv_at hl 0 rfl) ?_
  refine vk_getf hx hb ((hE.vs hAb).1 t hr_t).2.1 hS hown (hg _ m_24) (fun _ h9 => h9) d_String_coder_7 ?_
  refine lv_goto (tgt := 14) hx hb d_String_coder_10 (by decide) ?_
  obtain rfl := Option.some.inj hf
  rw [← hQ]
  exact W.zret (v := (0 : Int32)) hx hb hr rfl (fun t9 ht hW => ⟨⟨(0 : Int32), (), rfl, rfl, ⟨by rw [ht]; exact hP, hD⟩⟩, hS.F ht⟩) hS.2.2 d_String_coder_14
theorem d_String_isLatin1_0 : decode cd_String_isLatin1 0 = .ok (.getstatic 38, 3) := by decide +kernel
theorem d_String_isLatin1_3 : decode cd_String_isLatin1 3 = .ok (.ifCond .eq 14, 3) := by decide +kernel
theorem d_String_isLatin1_6 : decode cd_String_isLatin1 6 = .ok (.aload_n 0, 1) := by decide +kernel
theorem d_String_isLatin1_7 : decode cd_String_isLatin1 7 = .ok (.getfield 15, 3) := by decide +kernel
theorem d_String_isLatin1_10 : decode cd_String_isLatin1 10 = .ok (.ifCond .ne 7, 3) := by decide +kernel
theorem d_String_isLatin1_13 : decode cd_String_isLatin1 13 = .ok (.iconst 1, 1) := by decide +kernel
theorem d_String_isLatin1_14 : decode cd_String_isLatin1 14 = .ok (.goto 4, 3) := by decide +kernel
theorem d_String_isLatin1_17 : decode cd_String_isLatin1 17 = .ok (.iconst 0, 1) := by decide +kernel
theorem d_String_isLatin1_18 : decode cd_String_isLatin1 18 = .ok (.ireturn, 1) := by decide +kernel
def f_String_isLatin1  : Option Int32 :=
  some (1 : Int32)
set_option maxHeartbeats 4000000 in
set_option maxRecDepth 100000 in
theorem c_String_isLatin1 (l : Launch) (G : Gt) (K : Nat) (t : Nat) (sz : Nat) (res : Int32)  (hr_t : t < nS) (hf : f_String_isLatin1  = some res) : Met l y_String_isLatin1 (.code y_String_isLatin1 cd_String_isLatin1 1 (some .boolean) :: gw) { frames := 0, cells := 0, slots := 0, locals := 0 } (PC G ([.ref (gT G t)] : List Value) sz (w_Preconditions_checkIndexn G )) (QZ G res (va_A (w_Preconditions_checkIndexn G ) sz) (w_Preconditions_checkIndexn G )) 0 0 (va_A (w_Preconditions_checkIndexn G ) sz) := by
  refine Met.ofW (cc := cd_String_isLatin1) (maxL := 1) (ret := (some .boolean)) (by decide) rfl ?_
  intro p e s m args below meth c s₁ B hml hv
  obtain ⟨rfl, hsz, hP, hE, hD0⟩ := hv
  have hx := B.exec
  have hb := B.bytes
  have hr := B.returns
  have hts := atoms_spec (ws := (.code y_String_isLatin1 cd_String_isLatin1 1 (some .boolean) :: gw)) B.pre
  have hg : ∀ w ∈ gw, w.before _ s = true := fun w h => hts w (List.mem_cons_of_mem _ h)
  have hown : s.vm.findClass R_String = some m.cls := findClass_of_methodNamed B.named
  have hlocks := B.notSynchronized
  subst hsz
  have hK := hE.K
  have hD := hD0.self (sz := s.heap.size)
  have hAb := hE.ab hD0
  obtain ⟨Q, hQ⟩ : ∃ Q, MQ below (QZ G res (va_A (w_Preconditions_checkIndexn G ) s.heap.size) (w_Preconditions_checkIndexn G )) ([.ref (gT G t)] : List Value).toArray s 0 0 (va_A (w_Preconditions_checkIndexn G ) s.heap.size) = Q := ⟨_, rfl⟩
  show W p l e { frames := 0, cells := 0, slots := 0, locals := 0 } s m ([.ref (gT G t)] : List Value).toArray below meth c s.heap [] 0 0 (MQ below (QZ G res (va_A (w_Preconditions_checkIndexn G ) s.heap.size) (w_Preconditions_checkIndexn G )) ([.ref (gT G t)] : List Value).toArray s 0 0 (va_A (w_Preconditions_checkIndexn G ) s.heap.size)) _
  rw [hQ]
  have hA : ∀ q : Nat, s.heap.size ≤ q → va_A (w_Preconditions_checkIndexn G ) s.heap.size q := fun q h => Or.inr h
  obtain ⟨A, hAe⟩ : ∃ A, va_A (w_Preconditions_checkIndexn G ) s.heap.size = A := ⟨_, rfl⟩
  rw [hAe] at hA hD hAb hQ
  have hS : va_S A s.heap s.heap [] := va_S.rf
  have hl := lv_entry (([.ref (gT G t)] : List Value)) (n := 1) (Nat.le_of_ble_eq_true rfl)
  rw [lg_entry_eq]
  generalize (lg_sl (([.ref (gT G t)] : List Value)) ++ List.replicate (1 - (lg_sl (([.ref (gT G t)] : List Value))).length) Slot.unset).toArray = ls at hl ⊢
  have hl : lv_has ls 1 [(0, .ref (gT G t))] := hl
  unfold f_String_isLatin1 at hf
  refine va_gets hx hb (hE.cs hAb) hS hown (hg _ m_23) (fun _ h9 => h9) d_String_isLatin1_0 ?_
  refine lv_if_eq (tgt := 17) hx hb d_String_isLatin1_3 (by decide) (fun c_3 => absurd c_3 (by decide)) (fun _ => ?_)
  refine lv_aload_n hx hb d_String_isLatin1_6 rfl (lv_at hl 0 rfl) ?_
  refine vk_getf hx hb ((hE.vs hAb).1 t hr_t).2.1 hS hown (hg _ m_24) (fun _ h9 => h9) d_String_isLatin1_7 ?_
  refine lv_if_ne (tgt := 17) hx hb d_String_isLatin1_10 (by decide) (fun c_10 => absurd c_10 (by decide)) (fun _ => ?_)
  refine lv_iconst (v := 1) hx hb d_String_isLatin1_13 (by decide) ?_
  refine lv_goto (tgt := 18) hx hb d_String_isLatin1_14 (by decide) ?_
  obtain rfl := Option.some.inj hf
  rw [← hQ]
  exact W.zret (v := (1 : Int32)) hx hb hr (bl_n bl_1) (fun t9 ht hW => ⟨⟨(1 : Int32), (), rfl, ⟨rfl, bl_1⟩, ⟨by rw [ht]; exact hP, hD⟩⟩, hS.F ht⟩) hS.2.2 d_String_isLatin1_18
theorem d_String_length_0 : decode cd_String_length 0 = .ok (.aload_n 0, 1) := by decide +kernel
theorem d_String_length_1 : decode cd_String_length 1 = .ok (.getfield 9, 3) := by decide +kernel
theorem d_String_length_4 : decode cd_String_length 4 = .ok (.arraylength, 1) := by decide +kernel
theorem d_String_length_5 : decode cd_String_length 5 = .ok (.aload_n 0, 1) := by decide +kernel
theorem d_String_length_6 : decode cd_String_length 6 = .ok (.invokevirtual 335, 3) := by decide +kernel
theorem d_String_length_9 : decode cd_String_length 9 = .ok (.ishr, 1) := by decide +kernel
theorem d_String_length_10 : decode cd_String_length 10 = .ok (.ireturn, 1) := by decide +kernel
theorem m_25 : Cond.fieldLink R_String 9 "java/lang/String" "value" "[B" ∈ gw := gm (i := 1207) (by decide +kernel) (by decide +kernel)
theorem m_26 : Cond.methodLink R_String 335 y_String_coder ∈ gw := gm (i := 486) (by decide +kernel) (by decide +kernel)
theorem m_27 : Cond.instanceMethod y_String_coder ∈ gw := gm (i := 487) (by decide +kernel) (by decide +kernel)
theorem m_28 : Cond.selects R_String y_String_coder y_String_coder ∈ gw := gm (i := 488) (by decide +kernel) (by decide +kernel)
set_option maxRecDepth 100000 in
theorem m_29 : Cond.code y_String_coder cd_String_coder 1 (some .byte) ∈ gw := gm (i := 489) rfl rfl
def f_String_length (t : Nat) : Option Int32 :=
  some ((nI (sLen.getD t 0)) >>> ((0 : Int32) &&& 31))
set_option maxHeartbeats 4000000 in
set_option maxRecDepth 100000 in
theorem c_String_length (l : Launch) (G : Gt) (K : Nat) (t : Nat) (sz : Nat) (res : Int32)  (hr_t : t < nS) (hf : f_String_length t = some res) : Met l y_String_length (.code y_String_length cd_String_length 1 (some .int) :: gw) { frames := 1, cells := 0, slots := 0, locals := 40 } (PC G ([.ref (gT G t)] : List Value) sz (w_Preconditions_checkIndexn G )) (QI G res (va_A (w_Preconditions_checkIndexn G ) sz) (w_Preconditions_checkIndexn G )) 0 0 (va_A (w_Preconditions_checkIndexn G ) sz) := by
  refine Met.ofW (cc := cd_String_length) (maxL := 1) (ret := (some .int)) (by decide) rfl ?_
  intro p e s m args below meth c s₁ B hml hv
  obtain ⟨rfl, hsz, hP, hE, hD0⟩ := hv
  have hx := B.exec
  have hb := B.bytes
  have hr := B.returns
  have hts := atoms_spec (ws := (.code y_String_length cd_String_length 1 (some .int) :: gw)) B.pre
  have hg : ∀ w ∈ gw, w.before _ s = true := fun w h => hts w (List.mem_cons_of_mem _ h)
  have hown : s.vm.findClass R_String = some m.cls := findClass_of_methodNamed B.named
  have hlocks := B.notSynchronized
  subst hsz
  have hK := hE.K
  have hD := hD0.self (sz := s.heap.size)
  have hAb := hE.ab hD0
  obtain ⟨Q, hQ⟩ : ∃ Q, MQ below (QI G res (va_A (w_Preconditions_checkIndexn G ) s.heap.size) (w_Preconditions_checkIndexn G )) ([.ref (gT G t)] : List Value).toArray s 0 0 (va_A (w_Preconditions_checkIndexn G ) s.heap.size) = Q := ⟨_, rfl⟩
  show W p l e { frames := 1, cells := 0, slots := 0, locals := 40 } s m ([.ref (gT G t)] : List Value).toArray below meth c s.heap [] 0 0 (MQ below (QI G res (va_A (w_Preconditions_checkIndexn G ) s.heap.size) (w_Preconditions_checkIndexn G )) ([.ref (gT G t)] : List Value).toArray s 0 0 (va_A (w_Preconditions_checkIndexn G ) s.heap.size)) _
  rw [hQ]
  have hA : ∀ q : Nat, s.heap.size ≤ q → va_A (w_Preconditions_checkIndexn G ) s.heap.size q := fun q h => Or.inr h
  obtain ⟨A, hAe⟩ : ∃ A, va_A (w_Preconditions_checkIndexn G ) s.heap.size = A := ⟨_, rfl⟩
  rw [hAe] at hA hD hAb hQ
  have hS : va_S A s.heap s.heap [] := va_S.rf
  have hl := lv_entry (([.ref (gT G t)] : List Value)) (n := 1) (Nat.le_of_ble_eq_true rfl)
  rw [lg_entry_eq]
  generalize (lg_sl (([.ref (gT G t)] : List Value)) ++ List.replicate (1 - (lg_sl (([.ref (gT G t)] : List Value))).length) Slot.unset).toArray = ls at hl ⊢
  have hl : lv_has ls 1 [(0, .ref (gT G t))] := hl
  unfold f_String_length at hf
  refine lv_aload_n hx hb d_String_length_0 rfl (lv_at hl 0 rfl) ?_
  refine vk_getf hx hb ((hE.vs hAb).1 t hr_t).2.2.1 hS hown (hg _ m_25) (fun _ h9 => h9) d_String_length_1 ?_
  refine va_tlen hx hb ((hE.vs hAb).1 t hr_t).2.2.2 hS (v := nI (sLen.getD t 0)) rfl d_String_length_4 ?_
  refine lv_aload_n hx hb d_String_length_5 rfl (lv_at hl 0 rfl) ?_
  refine CALLWi (va_runV (As := []) (rest := [.int (nI (sLen.getD t 0))]) ⟨hx, hb, hml, hown, hg⟩ (c_String_coder l G K t _ (0 : Int32) hr_t rfl) (cwV 0 hg (gV m_26 m_27 m_28 m_21 m_29) rfl rfl rfl (by decide +kernel) ⟨Nat.le_of_ble_eq_true rfl, Nat.le_of_ble_eq_true rfl⟩) ⟨PC_b, vk_recv (hE.vs hAb) hr_t hS, PC_p hE hS hAb hP hD⟩ rfl rfl hl.1 rfl (lv_room (Nat.le_of_ble_eq_true rfl)) d_String_length_6 ⟨Nat.zero_le _, Nat.zero_le _⟩) hP hD hS hA (fun H locs hP hD hS => ?_)
  have hP : va_P (gD G) vwCl (w_Preconditions_checkIndexn G ) H := hP
  have hD : va_D A (w_Preconditions_checkIndexn G ) := hD
  refine lv_ishr hx hb d_String_length_9 ?_
  obtain rfl := Option.some.inj hf
  rw [← hQ]
  exact W.iret (v := ((nI (sLen.getD t 0)) >>> ((0 : Int32) &&& 31))) hx hb hr (fun t9 ht hW => ⟨⟨((nI (sLen.getD t 0)) >>> ((0 : Int32) &&& 31)), (), rfl, rfl, ⟨by rw [ht]; exact hP, hD⟩⟩, hS.F ht⟩) hS.2.2 d_String_length_10
theorem d_String_charAt_0 : decode cd_String_charAt 0 = .ok (.aload_n 0, 1) := by decide +kernel
theorem d_String_charAt_1 : decode cd_String_charAt 1 = .ok (.invokevirtual 492, 3) := by decide +kernel
theorem d_String_charAt_4 : decode cd_String_charAt 4 = .ok (.ifCond .eq 12, 3) := by decide +kernel
theorem d_String_charAt_7 : decode cd_String_charAt 7 = .ok (.aload_n 0, 1) := by decide +kernel
theorem d_String_charAt_8 : decode cd_String_charAt 8 = .ok (.getfield 9, 3) := by decide +kernel
theorem d_String_charAt_11 : decode cd_String_charAt 11 = .ok (.iload_n 1, 1) := by decide +kernel
theorem d_String_charAt_12 : decode cd_String_charAt 12 = .ok (.invokestatic 495, 3) := by decide +kernel
theorem d_String_charAt_15 : decode cd_String_charAt 15 = .ok (.ireturn, 1) := by decide +kernel
theorem d_String_charAt_16 : decode cd_String_charAt 16 = .ok (.aload_n 0, 1) := by decide +kernel
theorem d_String_charAt_17 : decode cd_String_charAt 17 = .ok (.getfield 9, 3) := by decide +kernel
theorem d_String_charAt_20 : decode cd_String_charAt 20 = .ok (.iload_n 1, 1) := by decide +kernel
theorem d_String_charAt_21 : decode cd_String_charAt 21 = .ok (.invokestatic 498, 3) := by decide +kernel
theorem d_String_charAt_24 : decode cd_String_charAt 24 = .ok (.ireturn, 1) := by decide +kernel
theorem m_30 : Cond.methodLink R_String 492 y_String_isLatin1 ∈ gw := gm (i := 476) (by decide +kernel) (by decide +kernel)
theorem m_31 : Cond.instanceMethod y_String_isLatin1 ∈ gw := gm (i := 477) (by decide +kernel) (by decide +kernel)
theorem m_32 : Cond.selects R_String y_String_isLatin1 y_String_isLatin1 ∈ gw := gm (i := 478) (by decide +kernel) (by decide +kernel)
set_option maxRecDepth 100000 in
theorem m_33 : Cond.code y_String_isLatin1 cd_String_isLatin1 1 (some .boolean) ∈ gw := gm (i := 479) rfl rfl
theorem m_34 : Cond.methodLink R_String 495 y_StringLatin1_charAt ∈ gw := gm (i := 642) (by decide +kernel) (by decide +kernel)
theorem m_35 : Cond.static y_StringLatin1_charAt ∈ gw := gm (i := 643) (by decide +kernel) (by decide +kernel)
set_option maxRecDepth 100000 in
theorem m_36 : Cond.code y_StringLatin1_charAt cd_StringLatin1_charAt 2 (some .char) ∈ gw := gm (i := 644) rfl rfl
def f_String_charAt (t : Nat) (a1 : Int32) : Option Int32 :=
  ((f_StringLatin1_charAt t a1).bind fun u_12 => (if chB u_12 = true then some u_12 else none))
set_option maxHeartbeats 4000000 in
set_option maxRecDepth 100000 in
theorem c_String_charAt (l : Launch) (G : Gt) (K : Nat) (t : Nat) (a1 : Int32) (sz : Nat) (res : Int32)  (hr_t : t < nS) (hf : f_String_charAt t a1 = some res) : Met l y_String_charAt (.code y_String_charAt cd_String_charAt 2 (some .char) :: gw) { frames := 3, cells := 0, slots := 0, locals := 120 } (PC G ([.ref (gT G t), .int a1] : List Value) sz (w_Preconditions_checkIndexn G )) (QI G res (va_A (w_Preconditions_checkIndexn G ) sz) (w_Preconditions_checkIndexn G )) 0 0 (va_A (w_Preconditions_checkIndexn G ) sz) := by
  refine Met.ofW (cc := cd_String_charAt) (maxL := 2) (ret := (some .char)) (by decide) rfl ?_
  intro p e s m args below meth c s₁ B hml hv
  obtain ⟨rfl, hsz, hP, hE, hD0⟩ := hv
  have hx := B.exec
  have hb := B.bytes
  have hr := B.returns
  have hts := atoms_spec (ws := (.code y_String_charAt cd_String_charAt 2 (some .char) :: gw)) B.pre
  have hg : ∀ w ∈ gw, w.before _ s = true := fun w h => hts w (List.mem_cons_of_mem _ h)
  have hown : s.vm.findClass R_String = some m.cls := findClass_of_methodNamed B.named
  have hlocks := B.notSynchronized
  subst hsz
  have hK := hE.K
  have hD := hD0.self (sz := s.heap.size)
  have hAb := hE.ab hD0
  obtain ⟨Q, hQ⟩ : ∃ Q, MQ below (QI G res (va_A (w_Preconditions_checkIndexn G ) s.heap.size) (w_Preconditions_checkIndexn G )) ([.ref (gT G t), .int a1] : List Value).toArray s 0 0 (va_A (w_Preconditions_checkIndexn G ) s.heap.size) = Q := ⟨_, rfl⟩
  show W p l e { frames := 3, cells := 0, slots := 0, locals := 120 } s m ([.ref (gT G t), .int a1] : List Value).toArray below meth c s.heap [] 0 0 (MQ below (QI G res (va_A (w_Preconditions_checkIndexn G ) s.heap.size) (w_Preconditions_checkIndexn G )) ([.ref (gT G t), .int a1] : List Value).toArray s 0 0 (va_A (w_Preconditions_checkIndexn G ) s.heap.size)) _
  rw [hQ]
  have hA : ∀ q : Nat, s.heap.size ≤ q → va_A (w_Preconditions_checkIndexn G ) s.heap.size q := fun q h => Or.inr h
  obtain ⟨A, hAe⟩ : ∃ A, va_A (w_Preconditions_checkIndexn G ) s.heap.size = A := ⟨_, rfl⟩
  rw [hAe] at hA hD hAb hQ
  have hS : va_S A s.heap s.heap [] := va_S.rf
  have hl := lv_entry (([.ref (gT G t), .int a1] : List Value)) (n := 2) (Nat.le_of_ble_eq_true rfl)
  rw [lg_entry_eq]
  generalize (lg_sl (([.ref (gT G t), .int a1] : List Value)) ++ List.replicate (2 - (lg_sl (([.ref (gT G t), .int a1] : List Value))).length) Slot.unset).toArray = ls at hl ⊢
  have hl : lv_has ls 2 [(0, .ref (gT G t)), (1, .int a1)] := hl
  unfold f_String_charAt at hf
  refine lv_aload_n hx hb d_String_charAt_0 rfl (lv_at hl 0 rfl) ?_
  refine CALLWz (va_runV (As := []) (rest := []) ⟨hx, hb, hml, hown, hg⟩ (c_String_isLatin1 l G K t _ (1 : Int32) hr_t rfl) (cwV 0 hg (gV m_30 m_31 m_32 m_21 m_33) rfl rfl rfl (by decide +kernel) ⟨Nat.le_of_ble_eq_true rfl, Nat.le_of_ble_eq_true rfl⟩) ⟨PC_b, vk_recv (hE.vs hAb) hr_t hS, PC_p hE hS hAb hP hD⟩ rfl rfl hl.1 rfl (lv_room (Nat.le_of_ble_eq_true rfl)) d_String_charAt_1 ⟨Nat.zero_le _, Nat.zero_le _⟩) hP hD hS hA (fun bu_1 H locs hP hD hS => ?_)
  have hP : va_P (gD G) vwCl (w_Preconditions_checkIndexn G ) H := hP
  have hD : va_D A (w_Preconditions_checkIndexn G ) := hD
  refine lv_if_eq (tgt := 16) hx hb d_String_charAt_4 (by decide) (fun c_4 => absurd c_4 (by decide)) (fun _ => ?_)
  refine lv_aload_n hx hb d_String_charAt_7 rfl (lv_at hl 0 rfl) ?_
  refine vk_getf hx hb ((hE.vs hAb).1 t hr_t).2.2.1 hS hown (hg _ m_25) (fun _ h9 => h9) d_String_charAt_8 ?_
  refine lv_iload_n hx hb d_String_charAt_11 rfl (lv_at hl 1 rfl) ?_
  obtain ⟨u_12, hu_12, hf⟩ := bd_ hf
  refine CALLWi (va_runS (As := [.ref (gU G t), .int a1]) (rest := []) ⟨hx, hb, hml, hown, hg⟩ (c_StringLatin1_charAt l G K t a1 _ u_12 hr_t hu_12) (va_cwS 2 hg (gS m_34 m_35 m_7 m_36) rfl rfl rfl (by decide +kernel) ⟨Nat.le_of_ble_eq_true rfl, Nat.le_of_ble_eq_true rfl⟩) ⟨PC_b, PC_p hE hS hAb hP hD⟩ rfl rfl hl.1 rfl (lv_room (Nat.le_of_ble_eq_true rfl)) d_String_charAt_12 ⟨Nat.zero_le _, Nat.zero_le _⟩) hP hD hS hA (fun H locs hP hD hS => ?_)
  have hP : va_P (gD G) vwCl (w_Preconditions_checkIndexn G ) H := hP
  have hD : va_D A (w_Preconditions_checkIndexn G ) := hD
  obtain ⟨w_15_1, hf⟩ := gd_ hf
  obtain rfl := Option.some.inj hf
  rw [← hQ]
  exact W.zret (v := u_12) hx hb hr (chB_ w_15_1) (fun t9 ht hW => ⟨⟨u_12, (), rfl, rfl, ⟨by rw [ht]; exact hP, hD⟩⟩, hS.F ht⟩) hS.2.2 d_String_charAt_15
theorem d_String_indexOf_1_0 : decode cd_String_indexOf_1 0 = .ok (.aload_n 0, 1) := by decide +kernel
theorem d_String_indexOf_1_1 : decode cd_String_indexOf_1 1 = .ok (.invokevirtual 492, 3) := by decide +kernel
theorem d_String_indexOf_1_4 : decode cd_String_indexOf_1 4 = .ok (.ifCond .eq 19, 3) := by decide +kernel
theorem d_String_indexOf_1_7 : decode cd_String_indexOf_1 7 = .ok (.aload_n 0, 1) := by decide +kernel
theorem d_String_indexOf_1_8 : decode cd_String_indexOf_1 8 = .ok (.getfield 9, 3) := by decide +kernel
theorem d_String_indexOf_1_11 : decode cd_String_indexOf_1 11 = .ok (.iload_n 1, 1) := by decide +kernel
theorem d_String_indexOf_1_12 : decode cd_String_indexOf_1 12 = .ok (.iload_n 2, 1) := by decide +kernel
theorem d_String_indexOf_1_13 : decode cd_String_indexOf_1 13 = .ok (.aload_n 0, 1) := by decide +kernel
theorem d_String_indexOf_1_14 : decode cd_String_indexOf_1 14 = .ok (.invokevirtual 505, 3) := by decide +kernel
theorem d_String_indexOf_1_17 : decode cd_String_indexOf_1 17 = .ok (.invokestatic 637, 3) := by decide +kernel
theorem d_String_indexOf_1_20 : decode cd_String_indexOf_1 20 = .ok (.goto 16, 3) := by decide +kernel
theorem d_String_indexOf_1_23 : decode cd_String_indexOf_1 23 = .ok (.aload_n 0, 1) := by decide +kernel
theorem d_String_indexOf_1_24 : decode cd_String_indexOf_1 24 = .ok (.getfield 9, 3) := by decide +kernel
theorem d_String_indexOf_1_27 : decode cd_String_indexOf_1 27 = .ok (.iload_n 1, 1) := by decide +kernel
theorem d_String_indexOf_1_28 : decode cd_String_indexOf_1 28 = .ok (.iload_n 2, 1) := by decide +kernel
theorem d_String_indexOf_1_29 : decode cd_String_indexOf_1 29 = .ok (.aload_n 0, 1) := by decide +kernel
theorem d_String_indexOf_1_30 : decode cd_String_indexOf_1 30 = .ok (.invokevirtual 505, 3) := by decide +kernel
theorem d_String_indexOf_1_33 : decode cd_String_indexOf_1 33 = .ok (.invokestatic 640, 3) := by decide +kernel
theorem d_String_indexOf_1_36 : decode cd_String_indexOf_1 36 = .ok (.ireturn, 1) := by decide +kernel
theorem m_37 : Cond.methodLink R_String 505 y_String_length ∈ gw := gm (i := 482) (by decide +kernel) (by decide +kernel)
theorem m_38 : Cond.instanceMethod y_String_length ∈ gw := gm (i := 483) (by decide +kernel) (by decide +kernel)
theorem m_39 : Cond.selects R_String y_String_length y_String_length ∈ gw := gm (i := 484) (by decide +kernel) (by decide +kernel)
set_option maxRecDepth 100000 in
theorem m_40 : Cond.code y_String_length cd_String_length 1 (some .int) ∈ gw := gm (i := 485) rfl rfl
theorem m_41 : Cond.methodLink R_String 637 y_StringLatin1_indexOf ∈ gw := gm (i := 490) (by decide +kernel) (by decide +kernel)
theorem m_42 : Cond.static y_StringLatin1_indexOf ∈ gw := gm (i := 491) (by decide +kernel) (by decide +kernel)
set_option maxRecDepth 100000 in
theorem m_43 : Cond.code y_StringLatin1_indexOf cd_StringLatin1_indexOf 4 (some .int) ∈ gw := gm (i := 492) rfl rfl
def f_String_indexOf_1 (K : Nat) (t : Nat) (a1 : Int32) (a2 : Int32) : Option Int32 :=
  ((f_String_length t).bind fun u_14 => ((f_StringLatin1_indexOf K t a1 a2 u_14).bind fun u_17 => some u_17))
set_option maxHeartbeats 4000000 in
set_option maxRecDepth 100000 in
theorem c_String_indexOf_1 (l : Launch) (G : Gt) (K : Nat) (t : Nat) (a1 : Int32) (a2 : Int32) (sz : Nat) (res : Int32)  (hr_t : t < nS) (hf : f_String_indexOf_1 K t a1 a2 = some res) : Met l y_String_indexOf_1 (.code y_String_indexOf_1 cd_String_indexOf_1 3 (some .int) :: gw) { frames := 2, cells := 0, slots := 0, locals := 80 } (PC G ([.ref (gT G t), .int a1, .int a2] : List Value) sz (w_Preconditions_checkIndexn G )) (QI G res (va_A (w_Preconditions_checkIndexn G ) sz) (w_Preconditions_checkIndexn G )) 0 0 (va_A (w_Preconditions_checkIndexn G ) sz) := by
  refine Met.ofW (cc := cd_String_indexOf_1) (maxL := 3) (ret := (some .int)) (by decide) rfl ?_
  intro p e s m args below meth c s₁ B hml hv
  obtain ⟨rfl, hsz, hP, hE, hD0⟩ := hv
  have hx := B.exec
  have hb := B.bytes
  have hr := B.returns
  have hts := atoms_spec (ws := (.code y_String_indexOf_1 cd_String_indexOf_1 3 (some .int) :: gw)) B.pre
  have hg : ∀ w ∈ gw, w.before _ s = true := fun w h => hts w (List.mem_cons_of_mem _ h)
  have hown : s.vm.findClass R_String = some m.cls := findClass_of_methodNamed B.named
  have hlocks := B.notSynchronized
  subst hsz
  have hK := hE.K
  have hD := hD0.self (sz := s.heap.size)
  have hAb := hE.ab hD0
  obtain ⟨Q, hQ⟩ : ∃ Q, MQ below (QI G res (va_A (w_Preconditions_checkIndexn G ) s.heap.size) (w_Preconditions_checkIndexn G )) ([.ref (gT G t), .int a1, .int a2] : List Value).toArray s 0 0 (va_A (w_Preconditions_checkIndexn G ) s.heap.size) = Q := ⟨_, rfl⟩
  show W p l e { frames := 2, cells := 0, slots := 0, locals := 80 } s m ([.ref (gT G t), .int a1, .int a2] : List Value).toArray below meth c s.heap [] 0 0 (MQ below (QI G res (va_A (w_Preconditions_checkIndexn G ) s.heap.size) (w_Preconditions_checkIndexn G )) ([.ref (gT G t), .int a1, .int a2] : List Value).toArray s 0 0 (va_A (w_Preconditions_checkIndexn G ) s.heap.size)) _
  rw [hQ]
  have hA : ∀ q : Nat, s.heap.size ≤ q → va_A (w_Preconditions_checkIndexn G ) s.heap.size q := fun q h => Or.inr h
  obtain ⟨A, hAe⟩ : ∃ A, va_A (w_Preconditions_checkIndexn G ) s.heap.size = A := ⟨_, rfl⟩
  rw [hAe] at hA hD hAb hQ
  have hS : va_S A s.heap s.heap [] := va_S.rf
  have hl := lv_entry (([.ref (gT G t), .int a1, .int a2] : List Value)) (n := 3) (Nat.le_of_ble_eq_true rfl)
  rw [lg_entry_eq]
  generalize (lg_sl (([.ref (gT G t), .int a1, .int a2] : List Value)) ++ List.replicate (3 - (lg_sl (([.ref (gT G t), .int a1, .int a2] : List Value))).length) Slot.unset).toArray = ls at hl ⊢
  have hl : lv_has ls 3 [(0, .ref (gT G t)), (1, .int a1), (2, .int a2)] := hl
  unfold f_String_indexOf_1 at hf
  refine lv_aload_n hx hb d_String_indexOf_1_0 rfl (lv_at hl 0 rfl) ?_
  refine CALLWz (va_runV (As := []) (rest := []) ⟨hx, hb, hml, hown, hg⟩ (c_String_isLatin1 l G K t _ (1 : Int32) hr_t rfl) (cwV 0 hg (gV m_30 m_31 m_32 m_21 m_33) rfl rfl rfl (by decide +kernel) ⟨Nat.le_of_ble_eq_true rfl, Nat.le_of_ble_eq_true rfl⟩) ⟨PC_b, vk_recv (hE.vs hAb) hr_t hS, PC_p hE hS hAb hP hD⟩ rfl rfl hl.1 rfl (lv_room (Nat.le_of_ble_eq_true rfl)) d_String_indexOf_1_1 ⟨Nat.zero_le _, Nat.zero_le _⟩) hP hD hS hA (fun bu_1 H locs hP hD hS => ?_)
  have hP : va_P (gD G) vwCl (w_Preconditions_checkIndexn G ) H := hP
  have hD : va_D A (w_Preconditions_checkIndexn G ) := hD
  refine lv_if_eq (tgt := 23) hx hb d_String_indexOf_1_4 (by decide) (fun c_4 => absurd c_4 (by decide)) (fun _ => ?_)
  refine lv_aload_n hx hb d_String_indexOf_1_7 rfl (lv_at hl 0 rfl) ?_
  refine vk_getf hx hb ((hE.vs hAb).1 t hr_t).2.2.1 hS hown (hg _ m_25) (fun _ h9 => h9) d_String_indexOf_1_8 ?_
  refine lv_iload_n hx hb d_String_indexOf_1_11 rfl (lv_at hl 1 rfl) ?_
  refine lv_iload_n hx hb d_String_indexOf_1_12 rfl (lv_at hl 2 rfl) ?_
  refine lv_aload_n hx hb d_String_indexOf_1_13 rfl (lv_at hl 0 rfl) ?_
  obtain ⟨u_14, hu_14, hf⟩ := bd_ hf
  refine CALLWi (va_runV (As := []) (rest := [.int a2, .int a1, .ref (gU G t)]) ⟨hx, hb, hml, hown, hg⟩ (c_String_length l G K t _ u_14 hr_t hu_14) (cwV 0 hg (gV m_37 m_38 m_39 m_21 m_40) rfl rfl rfl (by decide +kernel) ⟨Nat.le_of_ble_eq_true rfl, Nat.le_of_ble_eq_true rfl⟩) ⟨PC_b, vk_recv (hE.vs hAb) hr_t hS, PC_p hE hS hAb hP hD⟩ rfl rfl hl.1 rfl (lv_room (Nat.le_of_ble_eq_true rfl)) d_String_indexOf_1_14 ⟨Nat.zero_le _, Nat.zero_le _⟩) hP hD hS hA (fun H locs hP hD hS => ?_)
  have hP : va_P (gD G) vwCl (w_Preconditions_checkIndexn G ) H := hP
  have hD : va_D A (w_Preconditions_checkIndexn G ) := hD
  obtain ⟨u_17, hu_17, hf⟩ := bd_ hf
  refine CALLWi (va_runS (As := [.ref (gU G t), .int a1, .int a2, .int u_14]) (rest := []) ⟨hx, hb, hml, hown, hg⟩ (c_StringLatin1_indexOf l G K t a1 a2 u_14 _ u_17 hr_t hu_17) (va_cwS 4 hg (gS m_41 m_42 m_7 m_43) rfl rfl rfl (by decide +kernel) ⟨Nat.le_of_ble_eq_true rfl, Nat.le_of_ble_eq_true rfl⟩) ⟨PC_b, PC_p hE hS hAb hP hD⟩ rfl rfl hl.1 rfl (lv_room (Nat.le_of_ble_eq_true rfl)) d_String_indexOf_1_17 ⟨Nat.zero_le _, Nat.zero_le _⟩) hP hD hS hA (fun H locs hP hD hS => ?_)
  have hP : va_P (gD G) vwCl (w_Preconditions_checkIndexn G ) H := hP
  have hD : va_D A (w_Preconditions_checkIndexn G ) := hD
  refine lv_goto (tgt := 36) hx hb d_String_indexOf_1_20 (by decide) ?_
  obtain rfl := Option.some.inj hf
  rw [← hQ]
  exact W.iret (v := u_17) hx hb hr (fun t9 ht hW => ⟨⟨u_17, (), rfl, rfl, ⟨by rw [ht]; exact hP, hD⟩⟩, hS.F ht⟩) hS.2.2 d_String_indexOf_1_36
theorem d_String_indexOf_0 : decode cd_String_indexOf 0 = .ok (.aload_n 0, 1) := by decide +kernel
theorem d_String_indexOf_1 : decode cd_String_indexOf 1 = .ok (.iload_n 1, 1) := by decide +kernel
theorem d_String_indexOf_2 : decode cd_String_indexOf 2 = .ok (.iconst 0, 1) := by decide +kernel
theorem d_String_indexOf_3 : decode cd_String_indexOf 3 = .ok (.invokevirtual 633, 3) := by decide +kernel
theorem d_String_indexOf_6 : decode cd_String_indexOf 6 = .ok (.ireturn, 1) := by decide +kernel
theorem m_44 : Cond.methodLink R_String 633 y_String_indexOf_1 ∈ gw := gm (i := 472) (by decide +kernel) (by decide +kernel)
theorem m_45 : Cond.instanceMethod y_String_indexOf_1 ∈ gw := gm (i := 473) (by decide +kernel) (by decide +kernel)
theorem m_46 : Cond.selects R_String y_String_indexOf_1 y_String_indexOf_1 ∈ gw := gm (i := 474) (by decide +kernel) (by decide +kernel)
set_option maxRecDepth 100000 in
theorem m_47 : Cond.code y_String_indexOf_1 cd_String_indexOf_1 3 (some .int) ∈ gw := gm (i := 475) rfl rfl
def f_String_indexOf (K : Nat) (t : Nat) (a1 : Int32) : Option Int32 :=
  ((f_String_indexOf_1 K t a1 (0 : Int32)).bind fun u_3 => some u_3)
set_option maxHeartbeats 4000000 in
set_option maxRecDepth 100000 in
theorem c_String_indexOf (l : Launch) (G : Gt) (K : Nat) (t : Nat) (a1 : Int32) (sz : Nat) (res : Int32)  (hr_t : t < nS) (hf : f_String_indexOf K t a1 = some res) : Met l y_String_indexOf (.code y_String_indexOf cd_String_indexOf 2 (some .int) :: gw) { frames := 3, cells := 0, slots := 0, locals := 120 } (PC G ([.ref (gT G t), .int a1] : List Value) sz (w_Preconditions_checkIndexn G )) (QI G res (va_A (w_Preconditions_checkIndexn G ) sz) (w_Preconditions_checkIndexn G )) 0 0 (va_A (w_Preconditions_checkIndexn G ) sz) := by
  refine Met.ofW (cc := cd_String_indexOf) (maxL := 2) (ret := (some .int)) (by decide) rfl ?_
  intro p e s m args below meth c s₁ B hml hv
  obtain ⟨rfl, hsz, hP, hE, hD0⟩ := hv
  have hx := B.exec
  have hb := B.bytes
  have hr := B.returns
  have hts := atoms_spec (ws := (.code y_String_indexOf cd_String_indexOf 2 (some .int) :: gw)) B.pre
  have hg : ∀ w ∈ gw, w.before _ s = true := fun w h => hts w (List.mem_cons_of_mem _ h)
  have hown : s.vm.findClass R_String = some m.cls := findClass_of_methodNamed B.named
  have hlocks := B.notSynchronized
  subst hsz
  have hK := hE.K
  have hD := hD0.self (sz := s.heap.size)
  have hAb := hE.ab hD0
  obtain ⟨Q, hQ⟩ : ∃ Q, MQ below (QI G res (va_A (w_Preconditions_checkIndexn G ) s.heap.size) (w_Preconditions_checkIndexn G )) ([.ref (gT G t), .int a1] : List Value).toArray s 0 0 (va_A (w_Preconditions_checkIndexn G ) s.heap.size) = Q := ⟨_, rfl⟩
  show W p l e { frames := 3, cells := 0, slots := 0, locals := 120 } s m ([.ref (gT G t), .int a1] : List Value).toArray below meth c s.heap [] 0 0 (MQ below (QI G res (va_A (w_Preconditions_checkIndexn G ) s.heap.size) (w_Preconditions_checkIndexn G )) ([.ref (gT G t), .int a1] : List Value).toArray s 0 0 (va_A (w_Preconditions_checkIndexn G ) s.heap.size)) _
  rw [hQ]
  have hA : ∀ q : Nat, s.heap.size ≤ q → va_A (w_Preconditions_checkIndexn G ) s.heap.size q := fun q h => Or.inr h
  obtain ⟨A, hAe⟩ : ∃ A, va_A (w_Preconditions_checkIndexn G ) s.heap.size = A := ⟨_, rfl⟩
  rw [hAe] at hA hD hAb hQ
  have hS : va_S A s.heap s.heap [] := va_S.rf
  have hl := lv_entry (([.ref (gT G t), .int a1] : List Value)) (n := 2) (Nat.le_of_ble_eq_true rfl)
  rw [lg_entry_eq]
  generalize (lg_sl (([.ref (gT G t), .int a1] : List Value)) ++ List.replicate (2 - (lg_sl (([.ref (gT G t), .int a1] : List Value))).length) Slot.unset).toArray = ls at hl ⊢
  have hl : lv_has ls 2 [(0, .ref (gT G t)), (1, .int a1)] := hl
  unfold f_String_indexOf at hf
  refine lv_aload_n hx hb d_String_indexOf_0 rfl (lv_at hl 0 rfl) ?_
  refine lv_iload_n hx hb d_String_indexOf_1 rfl (lv_at hl 1 rfl) ?_
  refine lv_iconst (v := 0) hx hb d_String_indexOf_2 (by decide) ?_
  obtain ⟨u_3, hu_3, hf⟩ := bd_ hf
  refine CALLWi (va_runV (As := [.int a1, .int (0 : Int32)]) (rest := []) ⟨hx, hb, hml, hown, hg⟩ (c_String_indexOf_1 l G K t a1 (0 : Int32) _ u_3 hr_t hu_3) (cwV 2 hg (gV m_44 m_45 m_46 m_21 m_47) rfl rfl rfl (by decide +kernel) ⟨Nat.le_of_ble_eq_true rfl, Nat.le_of_ble_eq_true rfl⟩) ⟨PC_b, vk_recv (hE.vs hAb) hr_t hS, PC_p hE hS hAb hP hD⟩ rfl rfl hl.1 rfl (lv_room (Nat.le_of_ble_eq_true rfl)) d_String_indexOf_3 ⟨Nat.zero_le _, Nat.zero_le _⟩) hP hD hS hA (fun H locs hP hD hS => ?_)
  have hP : va_P (gD G) vwCl (w_Preconditions_checkIndexn G ) H := hP
  have hD : va_D A (w_Preconditions_checkIndexn G ) := hD
  obtain rfl := Option.some.inj hf
  rw [← hQ]
  exact W.iret (v := u_3) hx hb hr (fun t9 ht hW => ⟨⟨u_3, (), rfl, rfl, ⟨by rw [ht]; exact hP, hD⟩⟩, hS.F ht⟩) hS.2.2 d_String_indexOf_6
theorem d_Arrays_fill_0 : decode cd_Arrays_fill 0 = .ok (.iconst 0, 1) := by decide +kernel
theorem d_Arrays_fill_1 : decode cd_Arrays_fill 1 = .ok (.istore_n 3, 1) := by decide +kernel
theorem d_Arrays_fill_2 : decode cd_Arrays_fill 2 = .ok (.aload_n 0, 1) := by decide +kernel
theorem d_Arrays_fill_3 : decode cd_Arrays_fill 3 = .ok (.arraylength, 1) := by decide +kernel
theorem d_Arrays_fill_4 : decode cd_Arrays_fill 4 = .ok (.istore 4, 2) := by decide +kernel
theorem d_Arrays_fill_6 : decode cd_Arrays_fill 6 = .ok (.iload_n 3, 1) := by decide +kernel
theorem d_Arrays_fill_7 : decode cd_Arrays_fill 7 = .ok (.iload 4, 2) := by decide +kernel
theorem d_Arrays_fill_9 : decode cd_Arrays_fill 9 = .ok (.if_icmp .ge 13, 3) := by decide +kernel
theorem d_Arrays_fill_12 : decode cd_Arrays_fill 12 = .ok (.aload_n 0, 1) := by decide +kernel
theorem d_Arrays_fill_13 : decode cd_Arrays_fill 13 = .ok (.iload_n 3, 1) := by decide +kernel
theorem d_Arrays_fill_14 : decode cd_Arrays_fill 14 = .ok (.lload_n 1, 1) := by decide +kernel
theorem d_Arrays_fill_15 : decode cd_Arrays_fill 15 = .ok (.lastore, 1) := by decide +kernel
theorem d_Arrays_fill_16 : decode cd_Arrays_fill 16 = .ok (.iinc 3 1, 3) := by decide +kernel
theorem d_Arrays_fill_19 : decode cd_Arrays_fill 19 = .ok (.goto (-13), 3) := by decide +kernel
theorem d_Arrays_fill_22 : decode cd_Arrays_fill 22 = .ok (.return_, 1) := by decide +kernel
def b_Arrays_fill_6 (na1 : Nat) (a2 : Int64) (x4 : Int32) (rec_6 : (Int32 × (Nat → Int64)) → Option (Nat → Int64)) (z6 : Int32 × (Nat → Int64)) : Option (Nat → Int64) :=
  (if x4 ≤ z6.1 then some z6.2 else (if inB z6.1 na1 = true then rec_6 ((z6.1 + 1), (vp_updL z6.2 z6.1.toNatClampNeg a2)) else none))
def f_Arrays_fill (K : Nat) (na1 : Nat) (a1 : Nat → Int64) (a2 : Int64) : Option (Nat → Int64) :=
  lp_ (b_Arrays_fill_6 na1 a2 (nI na1)) K ((0 : Int32), a1)
abbrev w_Arrays_fill (G : Gt) (qa1 : Nat) (na1 : Nat) (a1 : Nat → Int64) : va_W := [(qa1, .inl (gC G 2, na1, .inr (.inl a1)))]
set_option maxHeartbeats 4000000 in
set_option maxRecDepth 100000 in
theorem c_Arrays_fill (l : Launch) (G : Gt) (K : Nat) (qa1 : Nat) (na1 : Nat) (a1 : Nat → Int64) (a2 : Int64) (sz : Nat) (res : (Nat → Int64))   (hf : f_Arrays_fill K na1 a1 a2 = some res) : Met l y_Arrays_fill (.code y_Arrays_fill cd_Arrays_fill 5 none :: gw) { frames := 0, cells := 0, slots := 0, locals := 0 } (PC G ([.ref qa1, .long a2] : List Value) sz (w_Arrays_fill G qa1 na1 a1)) (QV G (va_A (w_Arrays_fill G qa1 na1 a1) sz) (w_Arrays_fill G qa1 na1 res)) 0 0 (va_A (w_Arrays_fill G qa1 na1 a1) sz) := by
  refine Met.ofW (cc := cd_Arrays_fill) (maxL := 5) (ret := none) (by decide) rfl ?_
  intro p e s m args below meth c s₁ B hml hv
  obtain ⟨rfl, hsz, hP, hE, hD0⟩ := hv
  have hx := B.exec
  have hb := B.bytes
  have hr := B.returns
  have hts := atoms_spec (ws := (.code y_Arrays_fill cd_Arrays_fill 5 none :: gw)) B.pre
  have hg : ∀ w ∈ gw, w.before _ s = true := fun w h => hts w (List.mem_cons_of_mem _ h)
  have hown : s.vm.findClass R_Arrays = some m.cls := findClass_of_methodNamed B.named
  have hlocks := B.notSynchronized
  subst hsz
  have hK := hE.K
  have hD := hD0.self (sz := s.heap.size)
  have hAb := hE.ab hD0
  obtain ⟨Q, hQ⟩ : ∃ Q, MQ below (QV G (va_A (w_Arrays_fill G qa1 na1 a1) s.heap.size) (w_Arrays_fill G qa1 na1 res)) ([.ref qa1, .long a2] : List Value).toArray s 0 0 (va_A (w_Arrays_fill G qa1 na1 a1) s.heap.size) = Q := ⟨_, rfl⟩
  show W p l e { frames := 0, cells := 0, slots := 0, locals := 0 } s m ([.ref qa1, .long a2] : List Value).toArray below meth c s.heap [] 0 0 (MQ below (QV G (va_A (w_Arrays_fill G qa1 na1 a1) s.heap.size) (w_Arrays_fill G qa1 na1 res)) ([.ref qa1, .long a2] : List Value).toArray s 0 0 (va_A (w_Arrays_fill G qa1 na1 a1) s.heap.size)) _
  rw [hQ]
  have hA : ∀ q : Nat, s.heap.size ≤ q → va_A (w_Arrays_fill G qa1 na1 a1) s.heap.size q := fun q h => Or.inr h
  obtain ⟨A, hAe⟩ : ∃ A, va_A (w_Arrays_fill G qa1 na1 a1) s.heap.size = A := ⟨_, rfl⟩
  rw [hAe] at hA hD hAb hQ
  have hS : va_S A s.heap s.heap [] := va_S.rf
  have hl := lv_entry (([.ref qa1, .long a2] : List Value)) (n := 5) (Nat.le_of_ble_eq_true rfl)
  rw [lg_entry_eq]
  generalize (lg_sl (([.ref qa1, .long a2] : List Value)) ++ List.replicate (5 - (lg_sl (([.ref qa1, .long a2] : List Value))).length) Slot.unset).toArray = ls at hl ⊢
  have hl : lv_has ls 5 [(0, .ref qa1), (1, .long a2)] := hl
  have W_6 : ∀ (x4 : Int32)  (n_6 : Nat) (z6 : Int32 × (Nat → Int64)) , lp_ (b_Arrays_fill_6 na1 a2 x4) n_6 z6 = some res → ∀ (H : Heap) (locs : List Loc) (ls : Array Slot), va_P (gD G) vwCl (w_Arrays_fill G qa1 na1 z6.2) H → va_D A (w_Arrays_fill G qa1 na1 z6.2) → va_S A s.heap H locs → lv_has ls 5 [(0, .ref qa1), (1, .long a2), (3, .int z6.1), (4, .int x4)] → W p l e { frames := 0, cells := 0, slots := 0, locals := 0 } s m ([.ref qa1, .long a2] : List Value).toArray below meth c H locs 0 0 Q (F0 m 6 ls []) := by
    intro x4 n_6
    induction n_6 with
    | zero =>
      intro z6  hf
      cases hf
    | succ n_6 ih_6 =>
      intro z6  hf H locs ls hP hD hS hl
      have hf : b_Arrays_fill_6 na1 a2 x4 (lp_ (b_Arrays_fill_6 na1 a2 x4) n_6) z6 = some res := hf
      generalize lp_ (b_Arrays_fill_6 na1 a2 x4) n_6 = rec_6 at hf ih_6
      unfold b_Arrays_fill_6 at hf
      refine lv_iload_n hx hb d_Arrays_fill_6 rfl (lv_at hl 2 rfl) ?_
      refine lv_iload hx hb d_Arrays_fill_7 (lv_at hl 3 rfl) ?_
      refine lv_icmp_ge (tgt := 22) hx hb d_Arrays_fill_9 (by decide) (fun c_9 => ?_) (fun c_9 => ?_)
      · have hf := ip_ c_9 hf
        obtain rfl := Option.some.inj hf
        rw [← hQ]
        exact W.vret hx hb hr (fun t9 ht hW => ⟨⟨(), rfl, trivial, ⟨by rw [ht]; exact hP, hD⟩⟩, hS.F ht⟩) hS.2.2 d_Arrays_fill_22
      · have hf := in_ c_9 hf
        refine lv_aload_n hx hb d_Arrays_fill_12 rfl (lv_at hl 0 rfl) ?_
        refine lv_iload_n hx hb d_Arrays_fill_13 rfl (lv_at hl 2 rfl) ?_
        refine lv_lload_n hx hb d_Arrays_fill_14 rfl (lv_at hl 1 rfl) ?_
        obtain ⟨g_15, hf⟩ := gd_ hf
        refine va_last hx hb hK hP hD hS 0 2 rfl rfl (inB_in g_15) d_Arrays_fill_15 (fun H locs hP hD hS => ?_)
        have hP : va_P (gD G) vwCl (w_Arrays_fill G qa1 na1 (vp_updL z6.2 z6.1.toNatClampNeg a2)) H := hP
        have hD : va_D A (w_Arrays_fill G qa1 na1 (vp_updL z6.2 z6.1.toNatClampNeg a2)) := hD
        refine lv_iinc (v := (z6.1 + 1)) (lv' := [(3, .int (z6.1 + 1)), (0, .ref qa1), (1, .long a2), (4, .int x4)]) hx hb d_Arrays_fill_16 hl (k := 2) rfl rfl (by decide) rfl (fun ls hl => ?_)
        refine lv_goto (tgt := 6) hx hb d_Arrays_fill_19 (by decide) ?_
        exact ih_6 ((z6.1 + 1), (vp_updL z6.2 z6.1.toNatClampNeg a2))  hf _ _ _ hP hD hS (lv_sub hl [1, 2, 0, 3] rfl)
  unfold f_Arrays_fill at hf
  refine lv_iconst (v := 0) hx hb d_Arrays_fill_0 (by decide) ?_
  refine lv_istore_n (lv' := [(3, .int (0 : Int32)), (0, .ref qa1), (1, .long a2)]) hx hb d_Arrays_fill_1 rfl hl (by decide) rfl (fun ls hl => ?_)
  refine lv_aload_n hx hb d_Arrays_fill_2 rfl (lv_at hl 1 rfl) ?_
  refine va_alen hx hb hK hP 0 2 rfl rfl (v := nI na1) rfl d_Arrays_fill_3 ?_
  refine lv_istore (lv' := [(4, .int (nI na1)), (3, .int (0 : Int32)), (0, .ref qa1), (1, .long a2)]) hx hb d_Arrays_fill_4 hl (by decide) rfl (fun ls hl => ?_)
  exact W_6 (nI na1)  K ((0 : Int32), a1)  hf _ _ _ hP hD hS (lv_sub hl [2, 3, 1, 0] rfl)
theorem d_Arrays_fill_1_0 : decode cd_Arrays_fill_1 0 = .ok (.iconst 0, 1) := by decide +kernel
theorem d_Arrays_fill_1_1 : decode cd_Arrays_fill_1 1 = .ok (.istore_n 2, 1) := by decide +kernel
theorem d_Arrays_fill_1_2 : decode cd_Arrays_fill_1 2 = .ok (.aload_n 0, 1) := by decide +kernel
theorem d_Arrays_fill_1_3 : decode cd_Arrays_fill_1 3 = .ok (.arraylength, 1) := by decide +kernel
theorem d_Arrays_fill_1_4 : decode cd_Arrays_fill_1 4 = .ok (.istore_n 3, 1) := by decide +kernel
theorem d_Arrays_fill_1_5 : decode cd_Arrays_fill_1 5 = .ok (.iload_n 2, 1) := by decide +kernel
theorem d_Arrays_fill_1_6 : decode cd_Arrays_fill_1 6 = .ok (.iload_n 3, 1) := by decide +kernel
theorem d_Arrays_fill_1_7 : decode cd_Arrays_fill_1 7 = .ok (.if_icmp .ge 13, 3) := by decide +kernel
theorem d_Arrays_fill_1_10 : decode cd_Arrays_fill_1 10 = .ok (.aload_n 0, 1) := by decide +kernel
theorem d_Arrays_fill_1_11 : decode cd_Arrays_fill_1 11 = .ok (.iload_n 2, 1) := by decide +kernel
theorem d_Arrays_fill_1_12 : decode cd_Arrays_fill_1 12 = .ok (.iload_n 1, 1) := by decide +kernel
theorem d_Arrays_fill_1_13 : decode cd_Arrays_fill_1 13 = .ok (.iastore, 1) := by decide +kernel
theorem d_Arrays_fill_1_14 : decode cd_Arrays_fill_1 14 = .ok (.iinc 2 1, 3) := by decide +kernel
theorem d_Arrays_fill_1_17 : decode cd_Arrays_fill_1 17 = .ok (.goto (-12), 3) := by decide +kernel
theorem d_Arrays_fill_1_20 : decode cd_Arrays_fill_1 20 = .ok (.return_, 1) := by decide +kernel
def b_Arrays_fill_1_5 (na1 : Nat) (a2 : Int32) (x3 : Int32) (rec_5 : (Int32 × (Nat → Int32)) → Option (Nat → Int32)) (z5 : Int32 × (Nat → Int32)) : Option (Nat → Int32) :=
  (if x3 ≤ z5.1 then some z5.2 else (if inB z5.1 na1 = true then rec_5 ((z5.1 + 1), (upd z5.2 z5.1.toNatClampNeg a2)) else none))
def f_Arrays_fill_1 (K : Nat) (na1 : Nat) (a1 : Nat → Int32) (a2 : Int32) : Option (Nat → Int32) :=
  lp_ (b_Arrays_fill_1_5 na1 a2 (nI na1)) K ((0 : Int32), a1)
abbrev w_Arrays_fill_1 (G : Gt) (qa1 : Nat) (na1 : Nat) (a1 : Nat → Int32) : va_W := [(qa1, .inl (gC G 1, na1, .inl a1))]
set_option maxHeartbeats 4000000 in
set_option maxRecDepth 100000 in
theorem c_Arrays_fill_1 (l : Launch) (G : Gt) (K : Nat) (qa1 : Nat) (na1 : Nat) (a1 : Nat → Int32) (a2 : Int32) (sz : Nat) (res : (Nat → Int32))   (hf : f_Arrays_fill_1 K na1 a1 a2 = some res) : Met l y_Arrays_fill_1 (.code y_Arrays_fill_1 cd_Arrays_fill_1 4 none :: gw) { frames := 0, cells := 0, slots := 0, locals := 0 } (PC G ([.ref qa1, .int a2] : List Value) sz (w_Arrays_fill_1 G qa1 na1 a1)) (QV G (va_A (w_Arrays_fill_1 G qa1 na1 a1) sz) (w_Arrays_fill_1 G qa1 na1 res)) 0 0 (va_A (w_Arrays_fill_1 G qa1 na1 a1) sz) := by
  refine Met.ofW (cc := cd_Arrays_fill_1) (maxL := 4) (ret := none) (by decide) rfl ?_
  intro p e s m args below meth c s₁ B hml hv
  obtain ⟨rfl, hsz, hP, hE, hD0⟩ := hv
  have hx := B.exec
  have hb := B.bytes
  have hr := B.returns
  have hts := atoms_spec (ws := (.code y_Arrays_fill_1 cd_Arrays_fill_1 4 none :: gw)) B.pre
  have hg : ∀ w ∈ gw, w.before _ s = true := fun w h => hts w (List.mem_cons_of_mem _ h)
  have hown : s.vm.findClass R_Arrays = some m.cls := findClass_of_methodNamed B.named
  have hlocks := B.notSynchronized
  subst hsz
  have hK := hE.K
  have hD := hD0.self (sz := s.heap.size)
  have hAb := hE.ab hD0
  obtain ⟨Q, hQ⟩ : ∃ Q, MQ below (QV G (va_A (w_Arrays_fill_1 G qa1 na1 a1) s.heap.size) (w_Arrays_fill_1 G qa1 na1 res)) ([.ref qa1, .int a2] : List Value).toArray s 0 0 (va_A (w_Arrays_fill_1 G qa1 na1 a1) s.heap.size) = Q := ⟨_, rfl⟩
  show W p l e { frames := 0, cells := 0, slots := 0, locals := 0 } s m ([.ref qa1, .int a2] : List Value).toArray below meth c s.heap [] 0 0 (MQ below (QV G (va_A (w_Arrays_fill_1 G qa1 na1 a1) s.heap.size) (w_Arrays_fill_1 G qa1 na1 res)) ([.ref qa1, .int a2] : List Value).toArray s 0 0 (va_A (w_Arrays_fill_1 G qa1 na1 a1) s.heap.size)) _
  rw [hQ]
  have hA : ∀ q : Nat, s.heap.size ≤ q → va_A (w_Arrays_fill_1 G qa1 na1 a1) s.heap.size q := fun q h => Or.inr h
  obtain ⟨A, hAe⟩ : ∃ A, va_A (w_Arrays_fill_1 G qa1 na1 a1) s.heap.size = A := ⟨_, rfl⟩
  rw [hAe] at hA hD hAb hQ
  have hS : va_S A s.heap s.heap [] := va_S.rf
  have hl := lv_entry (([.ref qa1, .int a2] : List Value)) (n := 4) (Nat.le_of_ble_eq_true rfl)
  rw [lg_entry_eq]
  generalize (lg_sl (([.ref qa1, .int a2] : List Value)) ++ List.replicate (4 - (lg_sl (([.ref qa1, .int a2] : List Value))).length) Slot.unset).toArray = ls at hl ⊢
  have hl : lv_has ls 4 [(0, .ref qa1), (1, .int a2)] := hl
  have W_5 : ∀ (x3 : Int32)  (n_5 : Nat) (z5 : Int32 × (Nat → Int32)) , lp_ (b_Arrays_fill_1_5 na1 a2 x3) n_5 z5 = some res → ∀ (H : Heap) (locs : List Loc) (ls : Array Slot), va_P (gD G) vwCl (w_Arrays_fill_1 G qa1 na1 z5.2) H → va_D A (w_Arrays_fill_1 G qa1 na1 z5.2) → va_S A s.heap H locs → lv_has ls 4 [(0, .ref qa1), (1, .int a2), (2, .int z5.1), (3, .int x3)] → W p l e { frames := 0, cells := 0, slots := 0, locals := 0 } s m ([.ref qa1, .int a2] : List Value).toArray below meth c H locs 0 0 Q (F0 m 5 ls []) := by
    intro x3 n_5
    induction n_5 with
    | zero =>
      intro z5  hf
      cases hf
    | succ n_5 ih_5 =>
      intro z5  hf H locs ls hP hD hS hl
      have hf : b_Arrays_fill_1_5 na1 a2 x3 (lp_ (b_Arrays_fill_1_5 na1 a2 x3) n_5) z5 = some res := hf
      generalize lp_ (b_Arrays_fill_1_5 na1 a2 x3) n_5 = rec_5 at hf ih_5
      unfold b_Arrays_fill_1_5 at hf
      refine lv_iload_n hx hb d_Arrays_fill_1_5 rfl (lv_at hl 2 rfl) ?_
      refine lv_iload_n hx hb d_Arrays_fill_1_6 rfl (lv_at hl 3 rfl) ?_
      refine lv_icmp_ge (tgt := 20) hx hb d_Arrays_fill_1_7 (by decide) (fun c_7 => ?_) (fun c_7 => ?_)
      · have hf := ip_ c_7 hf
        obtain rfl := Option.some.inj hf
        rw [← hQ]
        exact W.vret hx hb hr (fun t9 ht hW => ⟨⟨(), rfl, trivial, ⟨by rw [ht]; exact hP, hD⟩⟩, hS.F ht⟩) hS.2.2 d_Arrays_fill_1_20
      · have hf := in_ c_7 hf
        refine lv_aload_n hx hb d_Arrays_fill_1_10 rfl (lv_at hl 0 rfl) ?_
        refine lv_iload_n hx hb d_Arrays_fill_1_11 rfl (lv_at hl 2 rfl) ?_
        refine lv_iload_n hx hb d_Arrays_fill_1_12 rfl (lv_at hl 1 rfl) ?_
        obtain ⟨g_13, hf⟩ := gd_ hf
        refine va_iast hx hb hK hP hD hS 0 1 rfl rfl (inB_in g_13) d_Arrays_fill_1_13 (fun H locs hP hD hS => ?_)
        have hP : va_P (gD G) vwCl (w_Arrays_fill_1 G qa1 na1 (upd z5.2 z5.1.toNatClampNeg a2)) H := hP
        have hD : va_D A (w_Arrays_fill_1 G qa1 na1 (upd z5.2 z5.1.toNatClampNeg a2)) := hD
        refine lv_iinc (v := (z5.1 + 1)) (lv' := [(2, .int (z5.1 + 1)), (0, .ref qa1), (1, .int a2), (3, .int x3)]) hx hb d_Arrays_fill_1_14 hl (k := 2) rfl rfl (by decide) rfl (fun ls hl => ?_)
        refine lv_goto (tgt := 5) hx hb d_Arrays_fill_1_17 (by decide) ?_
        exact ih_5 ((z5.1 + 1), (upd z5.2 z5.1.toNatClampNeg a2))  hf _ _ _ hP hD hS (lv_sub hl [1, 2, 0, 3] rfl)
  unfold f_Arrays_fill_1 at hf
  refine lv_iconst (v := 0) hx hb d_Arrays_fill_1_0 (by decide) ?_
  refine lv_istore_n (lv' := [(2, .int (0 : Int32)), (0, .ref qa1), (1, .int a2)]) hx hb d_Arrays_fill_1_1 rfl hl (by decide) rfl (fun ls hl => ?_)
  refine lv_aload_n hx hb d_Arrays_fill_1_2 rfl (lv_at hl 1 rfl) ?_
  refine va_alen hx hb hK hP 0 1 rfl rfl (v := nI na1) rfl d_Arrays_fill_1_3 ?_
  refine lv_istore_n (lv' := [(3, .int (nI na1)), (2, .int (0 : Int32)), (0, .ref qa1), (1, .int a2)]) hx hb d_Arrays_fill_1_4 rfl hl (by decide) rfl (fun ls hl => ?_)
  exact W_5 (nI na1)  K ((0 : Int32), a1)  hf _ _ _ hP hD hS (lv_sub hl [2, 3, 1, 0] rfl)
theorem d_Enum_ordinal_0 : decode cd_Enum_ordinal 0 = .ok (.aload_n 0, 1) := by decide +kernel
theorem d_Enum_ordinal_1 : decode cd_Enum_ordinal 1 = .ok (.getfield 7, 3) := by decide +kernel
theorem d_Enum_ordinal_4 : decode cd_Enum_ordinal 4 = .ok (.ireturn, 1) := by decide +kernel
theorem m_48 : Cond.fieldLink R_Enum 7 "java/lang/Enum" "ordinal" "I" ∈ gw := gm (i := 1209) (by decide +kernel) (by decide +kernel)
def f_Enum_ordinal (t : Nat) : Option Int32 :=
  some (kOrd t)
set_option maxHeartbeats 4000000 in
set_option maxRecDepth 100000 in
theorem c_Enum_ordinal (l : Launch) (G : Gt) (K : Nat) (t : Nat) (sz : Nat) (res : Int32)  (hr_t : t < 8) (hf : f_Enum_ordinal t = some res) : Met l y_Enum_ordinal (.code y_Enum_ordinal cd_Enum_ordinal 1 (some .int) :: gw) { frames := 0, cells := 0, slots := 0, locals := 0 } (PC G ([.ref (gK G t)] : List Value) sz (w_Preconditions_checkIndexn G )) (QI G res (va_A (w_Preconditions_checkIndexn G ) sz) (w_Preconditions_checkIndexn G )) 0 0 (va_A (w_Preconditions_checkIndexn G ) sz) := by
  refine Met.ofW (cc := cd_Enum_ordinal) (maxL := 1) (ret := (some .int)) (by decide) rfl ?_
  intro p e s m args below meth c s₁ B hml hv
  obtain ⟨rfl, hsz, hP, hE, hD0⟩ := hv
  have hx := B.exec
  have hb := B.bytes
  have hr := B.returns
  have hts := atoms_spec (ws := (.code y_Enum_ordinal cd_Enum_ordinal 1 (some .int) :: gw)) B.pre
  have hg : ∀ w ∈ gw, w.before _ s = true := fun w h => hts w (List.mem_cons_of_mem _ h)
  have hown : s.vm.findClass R_Enum = some m.cls := findClass_of_methodNamed B.named
  have hlocks := B.notSynchronized
  subst hsz
  have hK := hE.K
  have hD := hD0.self (sz := s.heap.size)
  have hAb := hE.ab hD0
  obtain ⟨Q, hQ⟩ : ∃ Q, MQ below (QI G res (va_A (w_Preconditions_checkIndexn G ) s.heap.size) (w_Preconditions_checkIndexn G )) ([.ref (gK G t)] : List Value).toArray s 0 0 (va_A (w_Preconditions_checkIndexn G ) s.heap.size) = Q := ⟨_, rfl⟩
  show W p l e { frames := 0, cells := 0, slots := 0, locals := 0 } s m ([.ref (gK G t)] : List Value).toArray below meth c s.heap [] 0 0 (MQ below (QI G res (va_A (w_Preconditions_checkIndexn G ) s.heap.size) (w_Preconditions_checkIndexn G )) ([.ref (gK G t)] : List Value).toArray s 0 0 (va_A (w_Preconditions_checkIndexn G ) s.heap.size)) _
  rw [hQ]
  have hA : ∀ q : Nat, s.heap.size ≤ q → va_A (w_Preconditions_checkIndexn G ) s.heap.size q := fun q h => Or.inr h
  obtain ⟨A, hAe⟩ : ∃ A, va_A (w_Preconditions_checkIndexn G ) s.heap.size = A := ⟨_, rfl⟩
  rw [hAe] at hA hD hAb hQ
  have hS : va_S A s.heap s.heap [] := va_S.rf
  have hl := lv_entry (([.ref (gK G t)] : List Value)) (n := 1) (Nat.le_of_ble_eq_true rfl)
  rw [lg_entry_eq]
  generalize (lg_sl (([.ref (gK G t)] : List Value)) ++ List.replicate (1 - (lg_sl (([.ref (gK G t)] : List Value))).length) Slot.unset).toArray = ls at hl ⊢
  have hl : lv_has ls 1 [(0, .ref (gK G t))] := hl
  unfold f_Enum_ordinal at hf
  refine lv_aload_n hx hb d_Enum_ordinal_0 rfl (lv_at hl 0 rfl) ?_
  refine va_getE hx hb (hE.en hAb) hr_t hS hown (q := ("java/lang/Enum", "ordinal", "I", [0, 1, 2, 3, 4, 5, 6, 7])) List.mem_cons_self (hg _ m_48) (fun _ h9 => h9) d_Enum_ordinal_1 ?_
  obtain rfl := Option.some.inj hf
  rw [← hQ]
  exact W.iret (v := (kOrd t)) hx hb hr (fun t9 ht hW => ⟨⟨(kOrd t), (), rfl, rfl, ⟨by rw [ht]; exact hP, hD⟩⟩, hS.F ht⟩) hS.2.2 d_Enum_ordinal_4
theorem d_Kind_goesWith_0 : decode cd_Kind_goesWith 0 = .ok (.aload_n 0, 1) := by decide +kernel
theorem d_Kind_goesWith_1 : decode cd_Kind_goesWith 1 = .ok (.getfield 47, 3) := by decide +kernel
theorem d_Kind_goesWith_4 : decode cd_Kind_goesWith 4 = .ok (.iload_n 1, 1) := by decide +kernel
theorem d_Kind_goesWith_5 : decode cd_Kind_goesWith 5 = .ok (.invokevirtual 51, 3) := by decide +kernel
theorem d_Kind_goesWith_8 : decode cd_Kind_goesWith 8 = .ok (.ifCond .lt 7, 3) := by decide +kernel
theorem d_Kind_goesWith_11 : decode cd_Kind_goesWith 11 = .ok (.iconst 1, 1) := by decide +kernel
theorem d_Kind_goesWith_12 : decode cd_Kind_goesWith 12 = .ok (.goto 4, 3) := by decide +kernel
theorem d_Kind_goesWith_15 : decode cd_Kind_goesWith 15 = .ok (.iconst 0, 1) := by decide +kernel
theorem d_Kind_goesWith_16 : decode cd_Kind_goesWith 16 = .ok (.ireturn, 1) := by decide +kernel
theorem m_49 : Cond.fieldLink R_Kind 47 "SpecifierDesk$Kind" "conversions" "Ljava/lang/String;" ∈ gw := gm (i := 1208) (by decide +kernel) (by decide +kernel)
theorem m_50 : Cond.methodLink R_Kind 51 y_String_indexOf ∈ gw := gm (i := 615) (by decide +kernel) (by decide +kernel)
theorem m_51 : Cond.instanceMethod y_String_indexOf ∈ gw := gm (i := 469) (by decide +kernel) (by decide +kernel)
theorem m_52 : Cond.selects R_String y_String_indexOf y_String_indexOf ∈ gw := gm (i := 470) (by decide +kernel) (by decide +kernel)
set_option maxRecDepth 100000 in
theorem m_53 : Cond.code y_String_indexOf cd_String_indexOf 2 (some .int) ∈ gw := gm (i := 471) rfl rfl
def f_Kind_goesWith (K : Nat) (t : Nat) (a1 : Int32) : Option Int32 :=
  ((f_String_indexOf K (kConv t) a1).bind fun u_5 => (if u_5 < 0 then some (0 : Int32) else some (1 : Int32)))
set_option maxHeartbeats 4000000 in
set_option maxRecDepth 100000 in
theorem c_Kind_goesWith (l : Launch) (G : Gt) (K : Nat) (t : Nat) (a1 : Int32) (sz : Nat) (res : Int32)  (hr_t : t < 8) (hf : f_Kind_goesWith K t a1 = some res) : Met l y_Kind_goesWith (.code y_Kind_goesWith cd_Kind_goesWith 2 (some .boolean) :: gw) { frames := 4, cells := 0, slots := 0, locals := 160 } (PC G ([.ref (gK G t), .int a1] : List Value) sz (w_Preconditions_checkIndexn G )) (QZ G res (va_A (w_Preconditions_checkIndexn G ) sz) (w_Preconditions_checkIndexn G )) 0 0 (va_A (w_Preconditions_checkIndexn G ) sz) := by
  refine Met.ofW (cc := cd_Kind_goesWith) (maxL := 2) (ret := (some .boolean)) (by decide) rfl ?_
  intro p e s m args below meth c s₁ B hml hv
  obtain ⟨rfl, hsz, hP, hE, hD0⟩ := hv
  have hx := B.exec
  have hb := B.bytes
  have hr := B.returns
  have hts := atoms_spec (ws := (.code y_Kind_goesWith cd_Kind_goesWith 2 (some .boolean) :: gw)) B.pre
  have hg : ∀ w ∈ gw, w.before _ s = true := fun w h => hts w (List.mem_cons_of_mem _ h)
  have hown : s.vm.findClass R_Kind = some m.cls := findClass_of_methodNamed B.named
  have hlocks := B.notSynchronized
  subst hsz
  have hK := hE.K
  have hD := hD0.self (sz := s.heap.size)
  have hAb := hE.ab hD0
  obtain ⟨Q, hQ⟩ : ∃ Q, MQ below (QZ G res (va_A (w_Preconditions_checkIndexn G ) s.heap.size) (w_Preconditions_checkIndexn G )) ([.ref (gK G t), .int a1] : List Value).toArray s 0 0 (va_A (w_Preconditions_checkIndexn G ) s.heap.size) = Q := ⟨_, rfl⟩
  show W p l e { frames := 4, cells := 0, slots := 0, locals := 160 } s m ([.ref (gK G t), .int a1] : List Value).toArray below meth c s.heap [] 0 0 (MQ below (QZ G res (va_A (w_Preconditions_checkIndexn G ) s.heap.size) (w_Preconditions_checkIndexn G )) ([.ref (gK G t), .int a1] : List Value).toArray s 0 0 (va_A (w_Preconditions_checkIndexn G ) s.heap.size)) _
  rw [hQ]
  have hA : ∀ q : Nat, s.heap.size ≤ q → va_A (w_Preconditions_checkIndexn G ) s.heap.size q := fun q h => Or.inr h
  obtain ⟨A, hAe⟩ : ∃ A, va_A (w_Preconditions_checkIndexn G ) s.heap.size = A := ⟨_, rfl⟩
  rw [hAe] at hA hD hAb hQ
  have hS : va_S A s.heap s.heap [] := va_S.rf
  have hl := lv_entry (([.ref (gK G t), .int a1] : List Value)) (n := 2) (Nat.le_of_ble_eq_true rfl)
  rw [lg_entry_eq]
  generalize (lg_sl (([.ref (gK G t), .int a1] : List Value)) ++ List.replicate (2 - (lg_sl (([.ref (gK G t), .int a1] : List Value))).length) Slot.unset).toArray = ls at hl ⊢
  have hl : lv_has ls 2 [(0, .ref (gK G t)), (1, .int a1)] := hl
  unfold f_Kind_goesWith at hf
  refine lv_aload_n hx hb d_Kind_goesWith_0 rfl (lv_at hl 0 rfl) ?_
  refine vk_getf hx hb (hE.kc hAb t hr_t) hS hown (hg _ m_49) (fun _ h9 => h9) d_Kind_goesWith_1 ?_
  refine lv_iload_n hx hb d_Kind_goesWith_4 rfl (lv_at hl 1 rfl) ?_
  obtain ⟨u_5, hu_5, hf⟩ := bd_ hf
  refine CALLWi (va_runV (As := [.int a1]) (rest := []) ⟨hx, hb, hml, hown, hg⟩ (c_String_indexOf l G K (kConv t) a1 _ u_5 (kConv_lt t) hu_5) (cwV 1 hg (gV m_50 m_51 m_52 m_21 m_53) rfl rfl rfl (by decide +kernel) ⟨Nat.le_of_ble_eq_true rfl, Nat.le_of_ble_eq_true rfl⟩) ⟨PC_b, vk_recv (hE.vs hAb) (kConv_lt t) hS, PC_p hE hS hAb hP hD⟩ rfl rfl hl.1 rfl (lv_room (Nat.le_of_ble_eq_true rfl)) d_Kind_goesWith_5 ⟨Nat.zero_le _, Nat.zero_le _⟩) hP hD hS hA (fun H locs hP hD hS => ?_)
  have hP : va_P (gD G) vwCl (w_Preconditions_checkIndexn G ) H := hP
  have hD : va_D A (w_Preconditions_checkIndexn G ) := hD
  refine lv_if_lt (tgt := 15) hx hb d_Kind_goesWith_8 (by decide) (fun c_8 => ?_) (fun c_8 => ?_)
  · have hf := ip_ c_8 hf
    refine lv_iconst (v := 0) hx hb d_Kind_goesWith_15 (by decide) ?_
    obtain rfl := Option.some.inj hf
    rw [← hQ]
    exact W.zret (v := (0 : Int32)) hx hb hr (bl_n bl_0) (fun t9 ht hW => ⟨⟨(0 : Int32), (), rfl, ⟨rfl, bl_0⟩, ⟨by rw [ht]; exact hP, hD⟩⟩, hS.F ht⟩) hS.2.2 d_Kind_goesWith_16
  · have hf := in_ c_8 hf
    refine lv_iconst (v := 1) hx hb d_Kind_goesWith_11 (by decide) ?_
    refine lv_goto (tgt := 16) hx hb d_Kind_goesWith_12 (by decide) ?_
    obtain rfl := Option.some.inj hf
    rw [← hQ]
    exact W.zret (v := (1 : Int32)) hx hb hr (bl_n bl_1) (fun t9 ht hW => ⟨⟨(1 : Int32), (), rfl, ⟨rfl, bl_1⟩, ⟨by rw [ht]; exact hP, hD⟩⟩, hS.F ht⟩) hS.2.2 d_Kind_goesWith_16
