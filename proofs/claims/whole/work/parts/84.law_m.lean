def R_law : String := "SpecifierDeskLaw"
def lw_P (b : Addr) (xs : List Int32) (args : Array Value) (s : State) : Prop := args = #[.ref b] ∧ s.IntsAt b xs ∧ xs.length ≤ 3072 ∧ (Jvm.Cond.and given_1 narrow_1).before args s = true
def lw_Q (_ : Array Value) (s : State) (o : Outcome) (t : State) : Prop := o = .returned (some (.int 1)) ∧ Framed s o t [] 600000 7302250
def lw_Z (below : List Frame) (a : Array Value) (s : State) : State → Prop := fun t => ∃ o, t.status = .running ∧ Ended t below o ∧ lw_Q a s o t
theorem lw_ret {p : Program} {l : Launch} {e : Env} {s : State} {m : MethodId} {below : List Frame} {meth : Method} {c : Code} {b : Nat} (hx : p.tables.exec = Jvm.exec) (hb : c.code = code) (hr : meth.sig.returnType = ret) (hlocks : meth.locks = false) {pc : Nat} {H : Heap} {ls : Array Slot} (hdg : decode code pc = .ok (.ireturn, 1)) : W p l e room_1 s m #[Value.ref b] below meth c H [] 600000 7302250 (lw_Z below #[Value.ref b] s) (F0 m pc ls [.int 1]) := by
  intro T hT X
  obtain ⟨fs, hret, hrun, hended, hW, hframe⟩ := X.leave (v := some (.int 1)) (hlocks := hlocks) (fun h => by rw [hr] at h; cases h)
  have hmeth' : T.vm.method? m = some meth := X.method'
  refine ⟨T.setFrames fs, ?_, .returned (some (.int 1)), hrun, hended, rfl, ⟨_, rfl⟩, hW, hframe⟩
  jvm_step X.here [X.here.top, hx, hb, hdg, hmeth', hr, ret, narrow_b1]
  (try refine ⟨rfl, ?_⟩); (try refine ⟨rfl, ?_⟩)
  first | (intro acts; rw [hret _ acts rfl rfl rfl]) | rw [hret _ _ rfl rfl rfl]
  exact Steps.refl _
def lw_At (p : Program) (s : State) (m : MethodId) (meth : Method) (c : Code) (b L : Nat) (xs : Nat → Int32) : Prop :=
  p.tables.exec = Jvm.exec ∧ c.code = code ∧ meth.sig.returnType = ret ∧ c.maxLocals = 4 ∧ s.vm.findClass R_law = some m.cls ∧ (∀ w ∈ lw_tbl, w.before #[Value.ref b] s = true) ∧ va_X b L xs s s.heap ∧ b < s.heap.size ∧ meth.locks = false ∧ (Jvm.Cond.and given_1 narrow_1).before #[Value.ref b] s = true

theorem CALLnp {p : Program} {l : Launch} {e : Env} {R : Room} {s : State} {m : MethodId} {args : Array Value} {below : List Frame} {meth : Method} {c : Code} {H : Heap} {locs : List Loc} {cells slots : Nat} {Q : State → Prop} {pc : Nat} {ls : Array Slot} {rest st0 : List Value} {a : Array Value} {A : Nat → Prop} {mc ms : Nat} {G : Gt} {ws wc wr : va_W} {S : Type} {w1 : S → va_W} (hr : va_Run p l e R s m args below meth c H locs cells slots mc ms (F0 m pc ls st0) rest (QN G (va_A wc H.size) w1 a) (va_A wc H.size)) (hP : va_P (gD G) vwCl ws H) (hD : va_D A ws) (hS : va_S A s.heap H locs) (hA : ∀ q, s.heap.size ≤ q → A q) (hp : ws.Perm (wc ++ wr))
    (kk : ∀ (u : S) (H1 : Heap) (locs1 : List Loc), va_P (gD G) vwCl (w1 u ++ wr) H1 → va_D A (w1 u ++ wr) → va_S A s.heap H1 locs1 → W p l e R s m args below meth c H1 locs1 (cells + mc) (slots + ms) Q (F0 m (pc + 3) ls rest)) : W p l e R s m args below meth c H locs cells slots Q (F0 m pc ls st0) := by
  have hF := va_freeQ hD hS hA hp
  refine va_callv hr hS (fun q _ h => hF q h) hF (fun u t H1 locs1 ht _ _ hB _ hk hS1 => ?_)
  obtain ⟨hP1, hD1⟩ := hB
  rw [ht] at hP1
  obtain ⟨hP2, hD2⟩ := va_beside hP hD hp hk hF hP1 hD1
  exact kk u H1 locs1 hP2 hD2 hS1
theorem LCALL {p : Program} {l : Launch} {e : Env} {s : State} {m : MethodId} {below : List Frame} {meth : Method} {c : Code} {b0 : Nat} {G : Gt} {H : Heap} {locs : List Loc} {cells slots : Nat} {Q : State → Prop} (hx : p.tables.exec = Jvm.exec) (hb : c.code = code) (hml : c.maxLocals = 4) (hown : s.vm.findClass R_law = some m.cls) (hg : ∀ w ∈ gw, w.before #[Value.ref b0] s = true) (hE : EV G s) (hgb : gb G = s.heap.size) {y : MethodName} {cd : ByteArray} {mL : Nat} {ret : Option FieldType} {C : String} {idx n : Nat} (h1 : Cond.methodLink R_law idx y ∈ gw) (h2 : Cond.instanceMethod y ∈ gw) (h3 : Cond.selects C y y ∈ gw) (h4 : Cond.initialized C ∈ gw) (h5 : Cond.code y cd mL ret ∈ gw) (hd : y.cls = C ∧ y.cls ≠ "java/lang/invoke/MethodHandle" ∧ y.cls ≠ "java/lang/invoke/VarHandle" ∧ (parseMethodDescriptor y.desc).map (fun d => d.parameters.length) = some n) (hmL : mL ≤ 40) {q ci : Nat} {r : vw_C} {fs : List Value} {w wr ws : va_W} (hw0 : w[0]? = some (q, .inr (ci, fs))) (hci : vwCl[ci]? = some r) (hrC : r.1 = C) {As rest : List Value} (hn : As.length = n) (hcat : (rest.map fun v => v.category).sum ≤ 8) {mc ms : Nat} {v : Int32} {Post : va_W → Prop} (hM : MX l G y cd mL ret (.ref q :: As) w mc ms v Post) (hp : ws.Perm (w ++ wr)) (hP : va_P (gD G) vwCl ws H) (hD : va_D (fun q => s.heap.size ≤ q) ws) (hS : va_S (fun q => s.heap.size ≤ q) s.heap H locs) {pc : Nat} {ls : Array Slot} (hls : ls.size = 4) (hdg : decode code pc = .ok (.invokevirtual idx, 3)) (hcells : cells + mc ≤ 600000) (hslots : slots + ms ≤ 7302250) {st0 : List Value} (hst : st0 = As.reverse ++ .ref q :: rest)
    (kk : ∀ (w' : va_W) (H1 : Heap) (locs1 : List Loc), Post w' → va_P (gD G) vwCl (w' ++ wr) H1 → va_D (fun q => s.heap.size ≤ q) (w' ++ wr) → va_S (fun q => s.heap.size ≤ q) s.heap H1 locs1 → W p l e room_1 s m #[Value.ref b0] below meth c H1 locs1 (cells + mc) (slots + ms) Q (F0 m (pc + 3) ls (.int v :: rest))) : W p l e room_1 s m #[Value.ref b0] below meth c H locs cells slots Q (F0 m pc ls st0) := by
  obtain ⟨rm, rc, rs, rf, rl, hM⟩ := hM
  obtain ⟨S, w', hpost, hM⟩ := hM H.size
  have hPc := (hP.perm hp).left
  have hDc := (hD.perm hp).left
  have hA : ∀ q : Nat, s.heap.size ≤ q → (fun q : Nat => s.heap.size ≤ q) q := fun _ h => h
  have hAb : ∀ q : Nat, (fun q : Nat => s.heap.size ≤ q) q → gb G ≤ q := fun q h => by rw [hgb]; exact h
  have hF := va_freeQ hD hS hA hp
  have hrecv := va_recv hE.K hPc hci hw0
  rw [hrC] at hrecv
  subst hst
  refine va_calli (va_runV (As := As) (rest := rest) ⟨hx, hb, hml, hown, hg⟩ hM (cwV n hg (gV h1 h2 h3 h4 h5) rfl rc rs hd ⟨by show rm.frames + 1 ≤ 13; omega, by show 8 + (mL + 11) + rm.locals ≤ 504; omega⟩) ⟨PC_b, hrecv, PC_p hE hS hAb hPc hDc⟩ rfl hn hls rfl (lv_room hcat) hdg ⟨hcells, hslots⟩) hS (fun q _ h => hF q h) hF (fun r u t H1 locs1 ht _ hv hB _ hk hS1 => ?_)
  obtain ⟨hP1, hD1⟩ := hB
  rw [ht] at hP1
  obtain ⟨hP2, hD2⟩ := va_beside hP hD hp hk hF hP1 hD1
  have hv : r = v := hv
  subst hv
  exact kk (w' u) H1 locs1 (hpost u) hP2 hD2 hS1
theorem LCALLv {p : Program} {l : Launch} {e : Env} {s : State} {m : MethodId} {below : List Frame} {meth : Method} {c : Code} {b0 : Nat} {G : Gt} {H : Heap} {locs : List Loc} {cells slots : Nat} {Q : State → Prop} (hx : p.tables.exec = Jvm.exec) (hb : c.code = code) (hml : c.maxLocals = 4) (hown : s.vm.findClass R_law = some m.cls) (hg : ∀ w ∈ gw, w.before #[Value.ref b0] s = true) (hE : EV G s) (hgb : gb G = s.heap.size) {y : MethodName} {cd : ByteArray} {mL : Nat} {C : String} {idx n : Nat} (h1 : Cond.methodLink R_law idx y ∈ gw) (h2 : Cond.instanceMethod y ∈ gw) (h3 : Cond.selects C y y ∈ gw) (h4 : Cond.initialized C ∈ gw) (h5 : Cond.code y cd mL none ∈ gw) (hd : y.cls = C ∧ y.cls ≠ "java/lang/invoke/MethodHandle" ∧ y.cls ≠ "java/lang/invoke/VarHandle" ∧ (parseMethodDescriptor y.desc).map (fun d => d.parameters.length) = some n) (hmL : mL ≤ 40) {q ci : Nat} {r : vw_C} {fs : List Value} {w wr ws : va_W} (hw0 : w[0]? = some (q, .inr (ci, fs))) (hci : vwCl[ci]? = some r) (hrC : r.1 = C) {As rest : List Value} (hn : As.length = n) (hcat : (rest.map fun v => v.category).sum ≤ 8) {w1 : va_W} (hM : MV l G y cd mL (.ref q :: As) w w1) (hp : ws.Perm (w ++ wr)) (hP : va_P (gD G) vwCl ws H) (hD : va_D (fun q => s.heap.size ≤ q) ws) (hS : va_S (fun q => s.heap.size ≤ q) s.heap H locs) {pc : Nat} {ls : Array Slot} (hls : ls.size = 4) (hdg : decode code pc = .ok (.invokevirtual idx, 3)) (hcells : cells ≤ 600000) (hslots : slots ≤ 7302250) {st0 : List Value} (hst : st0 = As.reverse ++ .ref q :: rest)
    (kk : ∀ (H1 : Heap) (locs1 : List Loc), va_P (gD G) vwCl (w1 ++ wr) H1 → va_D (fun q => s.heap.size ≤ q) (w1 ++ wr) → va_S (fun q => s.heap.size ≤ q) s.heap H1 locs1 → W p l e room_1 s m #[Value.ref b0] below meth c H1 locs1 cells slots Q (F0 m (pc + 3) ls rest)) : W p l e room_1 s m #[Value.ref b0] below meth c H locs cells slots Q (F0 m pc ls st0) := by
  obtain ⟨rm, rc, rs, rf, rl, hM⟩ := hM
  have hM := hM H.size
  have hPc := (hP.perm hp).left
  have hDc := (hD.perm hp).left
  have hA : ∀ q : Nat, s.heap.size ≤ q → (fun q : Nat => s.heap.size ≤ q) q := fun _ h => h
  have hAb : ∀ q : Nat, (fun q : Nat => s.heap.size ≤ q) q → gb G ≤ q := fun q h => by rw [hgb]; exact h
  have hF := va_freeQ hD hS hA hp
  have hrecv := va_recv hE.K hPc hci hw0
  rw [hrC] at hrecv
  subst hst
  refine va_callv (va_runV (As := As) (rest := rest) ⟨hx, hb, hml, hown, hg⟩ hM (cwV n hg (gV h1 h2 h3 h4 h5) rfl rc rs hd ⟨by show rm.frames + 1 ≤ 13; omega, by show 8 + (mL + 11) + rm.locals ≤ 504; omega⟩) ⟨PC_b, hrecv, PC_p hE hS hAb hPc hDc⟩ rfl hn hls rfl (lv_room hcat) hdg ⟨hcells, hslots⟩) hS (fun q _ h => hF q h) hF (fun u t H1 locs1 ht _ _ hB _ hk hS1 => ?_)
  obtain ⟨hP1, hD1⟩ := hB
  rw [ht] at hP1
  obtain ⟨hP2, hD2⟩ := va_beside hP hD hp hk hF hP1 hD1
  exact kk H1 locs1 hP2 hD2 hS1
def LC (p : Program) (s : State) (m : MethodId) (c : Code) (b0 L : Nat) (xs : Nat → Int32) (G : Gt) : Prop := p.tables.exec = Jvm.exec ∧ c.code = code ∧ c.maxLocals = 4 ∧ s.vm.findClass R_law = some m.cls ∧ (∀ w ∈ gw, w.before #[Value.ref b0] s = true) ∧ va_X b0 L xs s s.heap ∧ b0 < s.heap.size ∧ EV G s ∧ gb G = s.heap.size
theorem lm_0 : Cond.methodLink R_law 9 y_Desk_init ∈ gw := gm (i := 102) (by decide +kernel) (by decide +kernel)
theorem lm_1 : Cond.instanceMethod y_Desk_init ∈ gw := gm (i := 103) (by decide +kernel) (by decide +kernel)
theorem lm_2 : Cond.initialized R_Desk ∈ gw := gm (i := 82) (by decide +kernel) (by decide +kernel)
set_option maxRecDepth 100000 in
theorem lm_3 : Cond.code y_Desk_init cd_Desk_init 2 none ∈ gw := gm (i := 104) rfl rfl
theorem lm_4 : Cond.methodLink R_law 12 y_Model_init ∈ gw := gm (i := 856) (by decide +kernel) (by decide +kernel)
theorem lm_5 : Cond.instanceMethod y_Model_init ∈ gw := gm (i := 857) (by decide +kernel) (by decide +kernel)
theorem lm_6 : Cond.initialized R_Model ∈ gw := gm (i := 92) (by decide +kernel) (by decide +kernel)
set_option maxRecDepth 100000 in
theorem lm_7 : Cond.code y_Model_init cd_Model_init 1 none ∈ gw := gm (i := 858) rfl rfl
theorem lm_8 : Cond.methodLink R_law 15 y_Desk_write ∈ gw := gm (i := 317) (by decide +kernel) (by decide +kernel)
theorem lm_9 : Cond.instanceMethod y_Desk_write ∈ gw := gm (i := 318) (by decide +kernel) (by decide +kernel)
set_option maxRecDepth 100000 in
theorem lm_10 : Cond.code y_Desk_write cd_Desk_write 6 (some .boolean) ∈ gw := gm (i := 320) rfl rfl
theorem lm_11 : Cond.selects R_Desk y_Desk_write y_Desk_write ∈ gw := gm (i := 319) (by decide +kernel) (by decide +kernel)
theorem lm_12 : Cond.methodLink R_law 19 y_Model_write ∈ gw := gm (i := 949) (by decide +kernel) (by decide +kernel)
theorem lm_13 : Cond.instanceMethod y_Model_write ∈ gw := gm (i := 950) (by decide +kernel) (by decide +kernel)
set_option maxRecDepth 100000 in
theorem lm_14 : Cond.code y_Model_write cd_Model_write 7 (some .boolean) ∈ gw := gm (i := 952) rfl rfl
theorem lm_15 : Cond.selects R_Model y_Model_write y_Model_write ∈ gw := gm (i := 951) (by decide +kernel) (by decide +kernel)
theorem lm_16 : Cond.methodLink R_law 20 y_Desk_clear ∈ gw := gm (i := 325) (by decide +kernel) (by decide +kernel)
theorem lm_17 : Cond.instanceMethod y_Desk_clear ∈ gw := gm (i := 326) (by decide +kernel) (by decide +kernel)
set_option maxRecDepth 100000 in
theorem lm_18 : Cond.code y_Desk_clear cd_Desk_clear 1 none ∈ gw := gm (i := 328) rfl rfl
theorem lm_19 : Cond.selects R_Desk y_Desk_clear y_Desk_clear ∈ gw := gm (i := 327) (by decide +kernel) (by decide +kernel)
theorem lm_20 : Cond.methodLink R_law 23 y_Model_clear ∈ gw := gm (i := 954) (by decide +kernel) (by decide +kernel)
theorem lm_21 : Cond.instanceMethod y_Model_clear ∈ gw := gm (i := 955) (by decide +kernel) (by decide +kernel)
set_option maxRecDepth 100000 in
theorem lm_22 : Cond.code y_Model_clear cd_Model_clear 1 none ∈ gw := gm (i := 957) rfl rfl
theorem lm_23 : Cond.selects R_Model y_Model_clear y_Model_clear ∈ gw := gm (i := 956) (by decide +kernel) (by decide +kernel)
theorem lm_24 : Cond.methodLink R_law 24 y_Desk_nothing ∈ gw := gm (i := 333) (by decide +kernel) (by decide +kernel)
theorem lm_25 : Cond.instanceMethod y_Desk_nothing ∈ gw := gm (i := 334) (by decide +kernel) (by decide +kernel)
set_option maxRecDepth 100000 in
theorem lm_26 : Cond.code y_Desk_nothing cd_Desk_nothing 1 (some .int) ∈ gw := gm (i := 336) rfl rfl
theorem lm_27 : Cond.selects R_Desk y_Desk_nothing y_Desk_nothing ∈ gw := gm (i := 335) (by decide +kernel) (by decide +kernel)
theorem lm_28 : Cond.methodLink R_law 28 y_Model_nothing ∈ gw := gm (i := 958) (by decide +kernel) (by decide +kernel)
theorem lm_29 : Cond.instanceMethod y_Model_nothing ∈ gw := gm (i := 959) (by decide +kernel) (by decide +kernel)
set_option maxRecDepth 100000 in
theorem lm_30 : Cond.code y_Model_nothing cd_Model_nothing 1 (some .int) ∈ gw := gm (i := 961) rfl rfl
theorem lm_31 : Cond.selects R_Model y_Model_nothing y_Model_nothing ∈ gw := gm (i := 960) (by decide +kernel) (by decide +kernel)
theorem lm_32 : Cond.methodLink R_law 29 y_Desk_truth ∈ gw := gm (i := 349) (by decide +kernel) (by decide +kernel)
theorem lm_33 : Cond.instanceMethod y_Desk_truth ∈ gw := gm (i := 350) (by decide +kernel) (by decide +kernel)
set_option maxRecDepth 100000 in
theorem lm_34 : Cond.code y_Desk_truth cd_Desk_truth 2 (some .int) ∈ gw := gm (i := 352) rfl rfl
theorem lm_35 : Cond.selects R_Desk y_Desk_truth y_Desk_truth ∈ gw := gm (i := 351) (by decide +kernel) (by decide +kernel)
theorem lm_36 : Cond.methodLink R_law 33 y_Model_truth ∈ gw := gm (i := 966) (by decide +kernel) (by decide +kernel)
theorem lm_37 : Cond.instanceMethod y_Model_truth ∈ gw := gm (i := 967) (by decide +kernel) (by decide +kernel)
set_option maxRecDepth 100000 in
theorem lm_38 : Cond.code y_Model_truth cd_Model_truth 2 (some .int) ∈ gw := gm (i := 969) rfl rfl
theorem lm_39 : Cond.selects R_Model y_Model_truth y_Model_truth ∈ gw := gm (i := 968) (by decide +kernel) (by decide +kernel)
theorem lm_40 : Cond.methodLink R_law 34 y_Desk_character ∈ gw := gm (i := 355) (by decide +kernel) (by decide +kernel)
theorem lm_41 : Cond.instanceMethod y_Desk_character ∈ gw := gm (i := 356) (by decide +kernel) (by decide +kernel)
set_option maxRecDepth 100000 in
theorem lm_42 : Cond.code y_Desk_character cd_Desk_character 2 (some .int) ∈ gw := gm (i := 358) rfl rfl
theorem lm_43 : Cond.selects R_Desk y_Desk_character y_Desk_character ∈ gw := gm (i := 357) (by decide +kernel) (by decide +kernel)
theorem lm_44 : Cond.methodLink R_law 38 y_Model_character ∈ gw := gm (i := 970) (by decide +kernel) (by decide +kernel)
theorem lm_45 : Cond.instanceMethod y_Model_character ∈ gw := gm (i := 971) (by decide +kernel) (by decide +kernel)
set_option maxRecDepth 100000 in
theorem lm_46 : Cond.code y_Model_character cd_Model_character 2 (some .int) ∈ gw := gm (i := 973) rfl rfl
theorem lm_47 : Cond.selects R_Model y_Model_character y_Model_character ∈ gw := gm (i := 972) (by decide +kernel) (by decide +kernel)
theorem lm_48 : Cond.methodLink R_law 39 y_Desk_whole ∈ gw := gm (i := 361) (by decide +kernel) (by decide +kernel)
theorem lm_49 : Cond.instanceMethod y_Desk_whole ∈ gw := gm (i := 362) (by decide +kernel) (by decide +kernel)
set_option maxRecDepth 100000 in
theorem lm_50 : Cond.code y_Desk_whole cd_Desk_whole 8 (some .int) ∈ gw := gm (i := 364) rfl rfl
theorem lm_51 : Cond.selects R_Desk y_Desk_whole y_Desk_whole ∈ gw := gm (i := 363) (by decide +kernel) (by decide +kernel)
theorem lm_52 : Cond.methodLink R_law 43 y_Model_whole ∈ gw := gm (i := 974) (by decide +kernel) (by decide +kernel)
theorem lm_53 : Cond.instanceMethod y_Model_whole ∈ gw := gm (i := 975) (by decide +kernel) (by decide +kernel)
set_option maxRecDepth 100000 in
theorem lm_54 : Cond.code y_Model_whole cd_Model_whole 7 (some .int) ∈ gw := gm (i := 977) rfl rfl
theorem lm_55 : Cond.selects R_Model y_Model_whole y_Model_whole ∈ gw := gm (i := 976) (by decide +kernel) (by decide +kernel)
theorem lm_56 : Cond.methodLink R_law 44 y_Desk_size ∈ gw := gm (i := 367) (by decide +kernel) (by decide +kernel)
theorem lm_57 : Cond.instanceMethod y_Desk_size ∈ gw := gm (i := 368) (by decide +kernel) (by decide +kernel)
set_option maxRecDepth 100000 in
theorem lm_58 : Cond.code y_Desk_size cd_Desk_size 4 (some .int) ∈ gw := gm (i := 370) rfl rfl
theorem lm_59 : Cond.selects R_Desk y_Desk_size y_Desk_size ∈ gw := gm (i := 369) (by decide +kernel) (by decide +kernel)
theorem lm_60 : Cond.methodLink R_law 48 y_Model_size ∈ gw := gm (i := 978) (by decide +kernel) (by decide +kernel)
theorem lm_61 : Cond.instanceMethod y_Model_size ∈ gw := gm (i := 979) (by decide +kernel) (by decide +kernel)
set_option maxRecDepth 100000 in
theorem lm_62 : Cond.code y_Model_size cd_Model_size 5 (some .int) ∈ gw := gm (i := 981) rfl rfl
theorem lm_63 : Cond.selects R_Model y_Model_size y_Model_size ∈ gw := gm (i := 980) (by decide +kernel) (by decide +kernel)
theorem lm_64 : Cond.methodLink R_law 49 y_Desk_more ∈ gw := gm (i := 373) (by decide +kernel) (by decide +kernel)
theorem lm_65 : Cond.instanceMethod y_Desk_more ∈ gw := gm (i := 374) (by decide +kernel) (by decide +kernel)
set_option maxRecDepth 100000 in
theorem lm_66 : Cond.code y_Desk_more cd_Desk_more 4 (some .int) ∈ gw := gm (i := 376) rfl rfl
theorem lm_67 : Cond.selects R_Desk y_Desk_more y_Desk_more ∈ gw := gm (i := 375) (by decide +kernel) (by decide +kernel)
theorem lm_68 : Cond.methodLink R_law 53 y_Model_more ∈ gw := gm (i := 987) (by decide +kernel) (by decide +kernel)
theorem lm_69 : Cond.instanceMethod y_Model_more ∈ gw := gm (i := 988) (by decide +kernel) (by decide +kernel)
set_option maxRecDepth 100000 in
theorem lm_70 : Cond.code y_Model_more cd_Model_more 5 (some .int) ∈ gw := gm (i := 990) rfl rfl
theorem lm_71 : Cond.selects R_Model y_Model_more y_Model_more ∈ gw := gm (i := 989) (by decide +kernel) (by decide +kernel)
theorem lm_72 : Cond.methodLink R_law 54 y_Desk_scale ∈ gw := gm (i := 391) (by decide +kernel) (by decide +kernel)
theorem lm_73 : Cond.instanceMethod y_Desk_scale ∈ gw := gm (i := 392) (by decide +kernel) (by decide +kernel)
set_option maxRecDepth 100000 in
theorem lm_74 : Cond.code y_Desk_scale cd_Desk_scale 3 (some .int) ∈ gw := gm (i := 394) rfl rfl
theorem lm_75 : Cond.selects R_Desk y_Desk_scale y_Desk_scale ∈ gw := gm (i := 393) (by decide +kernel) (by decide +kernel)
theorem lm_76 : Cond.methodLink R_law 57 y_Model_scale ∈ gw := gm (i := 991) (by decide +kernel) (by decide +kernel)
theorem lm_77 : Cond.instanceMethod y_Model_scale ∈ gw := gm (i := 992) (by decide +kernel) (by decide +kernel)
set_option maxRecDepth 100000 in
theorem lm_78 : Cond.code y_Model_scale cd_Model_scale 3 (some .int) ∈ gw := gm (i := 994) rfl rfl
theorem lm_79 : Cond.selects R_Model y_Model_scale y_Model_scale ∈ gw := gm (i := 993) (by decide +kernel) (by decide +kernel)
theorem lm_80 : Cond.methodLink R_law 58 y_Desk_fraction ∈ gw := gm (i := 395) (by decide +kernel) (by decide +kernel)
theorem lm_81 : Cond.instanceMethod y_Desk_fraction ∈ gw := gm (i := 396) (by decide +kernel) (by decide +kernel)
set_option maxRecDepth 100000 in
theorem lm_82 : Cond.code y_Desk_fraction cd_Desk_fraction 7 (some .int) ∈ gw := gm (i := 398) rfl rfl
theorem lm_83 : Cond.selects R_Desk y_Desk_fraction y_Desk_fraction ∈ gw := gm (i := 397) (by decide +kernel) (by decide +kernel)
theorem lm_84 : Cond.methodLink R_law 62 y_Model_fraction ∈ gw := gm (i := 995) (by decide +kernel) (by decide +kernel)
theorem lm_85 : Cond.instanceMethod y_Model_fraction ∈ gw := gm (i := 996) (by decide +kernel) (by decide +kernel)
set_option maxRecDepth 100000 in
theorem lm_86 : Cond.code y_Model_fraction cd_Model_fraction 7 (some .int) ∈ gw := gm (i := 998) rfl rfl
theorem lm_87 : Cond.selects R_Model y_Model_fraction y_Model_fraction ∈ gw := gm (i := 997) (by decide +kernel) (by decide +kernel)
theorem lm_88 : Cond.methodLink R_law 63 y_Desk_text ∈ gw := gm (i := 402) (by decide +kernel) (by decide +kernel)
theorem lm_89 : Cond.instanceMethod y_Desk_text ∈ gw := gm (i := 403) (by decide +kernel) (by decide +kernel)
set_option maxRecDepth 100000 in
theorem lm_90 : Cond.code y_Desk_text cd_Desk_text 2 (some .int) ∈ gw := gm (i := 405) rfl rfl
theorem lm_91 : Cond.selects R_Desk y_Desk_text y_Desk_text ∈ gw := gm (i := 404) (by decide +kernel) (by decide +kernel)
theorem lm_92 : Cond.methodLink R_law 66 y_Model_text ∈ gw := gm (i := 1000) (by decide +kernel) (by decide +kernel)
theorem lm_93 : Cond.instanceMethod y_Model_text ∈ gw := gm (i := 1001) (by decide +kernel) (by decide +kernel)
set_option maxRecDepth 100000 in
theorem lm_94 : Cond.code y_Model_text cd_Model_text 3 (some .int) ∈ gw := gm (i := 1003) rfl rfl
theorem lm_95 : Cond.selects R_Model y_Model_text y_Model_text ∈ gw := gm (i := 1002) (by decide +kernel) (by decide +kernel)
theorem lm_96 : Cond.methodLink R_law 67 y_Desk_layOut ∈ gw := gm (i := 417) (by decide +kernel) (by decide +kernel)
theorem lm_97 : Cond.instanceMethod y_Desk_layOut ∈ gw := gm (i := 418) (by decide +kernel) (by decide +kernel)
set_option maxRecDepth 100000 in
theorem lm_98 : Cond.code y_Desk_layOut cd_Desk_layOut 4 (some .int) ∈ gw := gm (i := 420) rfl rfl
theorem lm_99 : Cond.selects R_Desk y_Desk_layOut y_Desk_layOut ∈ gw := gm (i := 419) (by decide +kernel) (by decide +kernel)
theorem lm_100 : Cond.methodLink R_law 70 y_Model_layOut ∈ gw := gm (i := 1004) (by decide +kernel) (by decide +kernel)
theorem lm_101 : Cond.instanceMethod y_Model_layOut ∈ gw := gm (i := 1005) (by decide +kernel) (by decide +kernel)
set_option maxRecDepth 100000 in
theorem lm_102 : Cond.code y_Model_layOut cd_Model_layOut 7 (some .int) ∈ gw := gm (i := 1007) rfl rfl
theorem lm_103 : Cond.selects R_Model y_Model_layOut y_Model_layOut ∈ gw := gm (i := 1006) (by decide +kernel) (by decide +kernel)
theorem lm_104 : Cond.methodLink R_law 71 y_Desk_length ∈ gw := gm (i := 846) (by decide +kernel) (by decide +kernel)
theorem lm_105 : Cond.instanceMethod y_Desk_length ∈ gw := gm (i := 847) (by decide +kernel) (by decide +kernel)
set_option maxRecDepth 100000 in
theorem lm_106 : Cond.code y_Desk_length cd_Desk_length 1 (some .int) ∈ gw := gm (i := 849) rfl rfl
theorem lm_107 : Cond.selects R_Desk y_Desk_length y_Desk_length ∈ gw := gm (i := 848) (by decide +kernel) (by decide +kernel)
theorem lm_108 : Cond.methodLink R_law 74 y_Model_length ∈ gw := gm (i := 1197) (by decide +kernel) (by decide +kernel)
theorem lm_109 : Cond.instanceMethod y_Model_length ∈ gw := gm (i := 1198) (by decide +kernel) (by decide +kernel)
set_option maxRecDepth 100000 in
theorem lm_110 : Cond.code y_Model_length cd_Model_length 1 (some .int) ∈ gw := gm (i := 1200) rfl rfl
theorem lm_111 : Cond.selects R_Model y_Model_length y_Model_length ∈ gw := gm (i := 1199) (by decide +kernel) (by decide +kernel)
theorem lm_112 : Cond.methodLink R_law 75 y_Desk_characterAt ∈ gw := gm (i := 850) (by decide +kernel) (by decide +kernel)
theorem lm_113 : Cond.instanceMethod y_Desk_characterAt ∈ gw := gm (i := 851) (by decide +kernel) (by decide +kernel)
set_option maxRecDepth 100000 in
theorem lm_114 : Cond.code y_Desk_characterAt cd_Desk_characterAt 2 (some .int) ∈ gw := gm (i := 853) rfl rfl
theorem lm_115 : Cond.selects R_Desk y_Desk_characterAt y_Desk_characterAt ∈ gw := gm (i := 852) (by decide +kernel) (by decide +kernel)
theorem lm_116 : Cond.methodLink R_law 78 y_Model_characterAt ∈ gw := gm (i := 1201) (by decide +kernel) (by decide +kernel)
theorem lm_117 : Cond.instanceMethod y_Model_characterAt ∈ gw := gm (i := 1202) (by decide +kernel) (by decide +kernel)
set_option maxRecDepth 100000 in
theorem lm_118 : Cond.code y_Model_characterAt cd_Model_characterAt 2 (some .int) ∈ gw := gm (i := 1204) rfl rfl
theorem lm_119 : Cond.selects R_Model y_Model_characterAt y_Model_characterAt ∈ gw := gm (i := 1203) (by decide +kernel) (by decide +kernel)
theorem lm_120 : Cond.constantLong R_law 13 4294967295 ∈ gw := gm (i := 1205) (by decide +kernel) (by decide +kernel)
theorem lm_121 : Cond.classLink R_law 7 R_Desk ∈ gw := gm (i := 100) (by decide +kernel) (by decide +kernel)
theorem lm_122 : Cond.classLink R_law 10 R_Model ∈ gw := gm (i := 854) (by decide +kernel) (by decide +kernel)
theorem lm_123 : Cond.instantiable R_Desk 8 ∈ gw := gm (i := 101) (by decide +kernel) (by decide +kernel)
theorem lm_124 : Cond.instantiable R_Model 29 ∈ gw := gm (i := 855) (by decide +kernel) (by decide +kernel)
