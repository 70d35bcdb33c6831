def QA (G : Gt) (v : Value) (A : Nat → Prop) (W1 : va_W) : Array Value → State → Outcome → State → Prop := fun _ st oc t => (oc = .returned (some v) ∧ va_P (gD G) vwCl W1 t.heap ∧ va_D A W1) ∧ va_F A st t
section CALLS2
variable {p : Program} {l : Launch} {e : Env} {R : Room} {s : State} {m : MethodId} {args : Array Value} {below : List Frame} {meth : Method} {c : Code} {H : Heap} {locs : List Loc} {cells slots : Nat} {Q : State → Prop}
variable {pc : Nat} {ls : Array Slot} {rest st0 : List Value} {a : Array Value} {A : Nat → Prop} {mc ms : Nat} {G : Gt} {ws wc w1 ws' : va_W}
theorem CALLa {v : Value} (hr : va_Run p l e R s m args below meth c H locs cells slots mc ms (F0 m pc ls st0) rest (QA G v (va_A wc H.size) w1 a) (va_A wc H.size)) (hP : va_P (gD G) vwCl ws H) (hD : va_D A ws) (hS : va_S A s.heap H locs) (hA : ∀ q, s.heap.size ≤ q → A q) (is : List Nat) (hC : is.map (fun i => ws[i]?) = wc.map some) (he : w1.map Prod.fst = wc.map Prod.fst) (hw : va_sets ws is w1 = ws')
    (kk : ∀ (H1 : Heap) (locs1 : List Loc), va_P (gD G) vwCl ws' H1 → va_D A ws' → va_S A s.heap H1 locs1 → W p l e R s m args below meth c H1 locs1 (cells + mc) (slots + ms) Q (F0 m (pc + 3) ls (v :: rest))) : W p l e R s m args below meth c H locs cells slots Q (F0 m pc ls st0) := by
  have hF := va_free hD hS hA is hC
  intro T hT X
  obtain ⟨v', st₀, t, T', L, h0, X', hL, e1, e2, ⟨⟨hv, hP1, hD1⟩, hz, hk⟩, st⟩ := hr T hT X
  cases hv
  rw [h0] at hz hk
  have hS1 : va_S A s.heap T'.heap (locs ++ L) := ⟨Nat.le_trans hS.1 (by rw [e1]; exact hz), fun q h1 h2 => by rw [e1, hk q (Nat.lt_of_lt_of_le h1 hS.1) (fun z => h2 (hF q z))]; exact hS.2.1 q h1 h2, fun q hq => by
      rcases List.mem_append.mp hq with h | h
      · exact hS.2.2 q h
      · exact hF _ (hL q h)⟩
  obtain ⟨hP2, hD2⟩ := va_back (H1 := T'.heap) hP hD is hC he hw (fun q h1 h2 => by rw [e1]; exact hk q h1 h2) (by rw [e1]; exact hP1)
  obtain ⟨t2, a1, b1⟩ := kk T'.heap (locs ++ L) hP2 hD2 hS1 T' rfl X'
  exact ⟨t2, st t2 a1, b1⟩
theorem CALLWa {v : Value} (hr : va_Run p l e R s m args below meth c H locs cells slots mc ms (F0 m pc ls st0) rest (QA G v (va_A ws H.size) w1 a) (va_A ws H.size)) (_hP : va_P (gD G) vwCl ws H) (hD : va_D A ws) (hS : va_S A s.heap H locs) (hA : ∀ q, s.heap.size ≤ q → A q)
    (kk : ∀ (H1 : Heap) (locs1 : List Loc), va_P (gD G) vwCl w1 H1 → va_D A w1 → va_S A s.heap H1 locs1 → W p l e R s m args below meth c H1 locs1 (cells + mc) (slots + ms) Q (F0 m (pc + 3) ls (v :: rest))) : W p l e R s m args below meth c H locs cells slots Q (F0 m pc ls st0) := by
  have hF : ∀ q, va_A ws H.size q → A q := fun q h => by
    rcases h with ⟨k, e, h⟩ | h
    · exact hD.2 k (q, e) h
    · exact hA q (Nat.le_trans hS.1 h)
  intro T hT X
  obtain ⟨v', st₀, t, T', L, h0, X', hL, e1, e2, ⟨⟨hv, hP1, hD1⟩, hz, hk⟩, st⟩ := hr T hT X
  cases hv
  rw [h0] at hz hk
  have hS1 : va_S A s.heap T'.heap (locs ++ L) := ⟨Nat.le_trans hS.1 (by rw [e1]; exact hz), fun q h1 h2 => by rw [e1, hk q (Nat.lt_of_lt_of_le h1 hS.1) (fun z => h2 (hF q z))]; exact hS.2.1 q h1 h2, fun q hq => by
      rcases List.mem_append.mp hq with h | h
      · exact hS.2.2 q h
      · exact hF _ (hL q h)⟩
  obtain ⟨t2, a1, b1⟩ := kk T'.heap (locs ++ L) (by rw [e1]; exact hP1) (hD1.weaken (fun _ _ _ h => hF _ h)) hS1 T' rfl X'
  exact ⟨t2, st t2 a1, b1⟩
end CALLS2
theorem va_A_perm {ws wc wr : va_W} {sz : Nat} (hp : ws.Perm (wc ++ wr)) : ∀ q, va_A wc sz q → va_A ws sz q := by
  intro q h
  rcases h with ⟨k, e, h⟩ | h
  · obtain ⟨i, hi⟩ := List.getElem?_of_mem (hp.mem_iff.mpr (List.mem_append_left _ (List.mem_of_getElem? h)))
    exact Or.inl ⟨i, e, hi⟩
  · exact Or.inr h
theorem PC_sub {G : Gt} {av : List Value} {sz : Nat} {ws wc wr : va_W} (hp : ws.Perm (wc ++ wr)) {a : Array Value} {s : State} (h : PC G av sz ws a s) : PC G av sz wc a s := by
  obtain ⟨h0, h1, hP, hE, hD⟩ := h
  exact ⟨h0, h1, (hP.perm hp).left, hE, (hD.perm hp).left⟩
theorem PC_after {G : Gt} {av : List Value} {sz : Nat} {ws wc wr w1 ws1 : va_W} (hp : ws.Perm (wc ++ wr)) (hp1 : (w1 ++ wr).Perm ws1) {a : Array Value} {s t : State} (h : PC G av sz ws a s) (hP1 : va_P (gD G) vwCl w1 t.heap) (hD1 : va_D (va_A wc sz) w1) (hf : va_F (va_A wc sz) s t) : (va_P (gD G) vwCl ws1 t.heap ∧ va_D (va_A ws sz) ws1) ∧ va_F (va_A ws sz) s t := by
  obtain ⟨h0, h1, hP, hE, hD⟩ := h
  have hF : ∀ q, va_A wc sz q → va_A ws sz q := va_A_perm hp
  subst h1
  obtain ⟨h2, h3⟩ := va_beside hP (hD.self (sz := s.heap.size)) hp (fun q g1 g2 => hf.2 q g1 g2) hF hP1 hD1
  exact ⟨⟨h2.perm hp1, h3.perm hp1⟩, hf.1, fun q g1 g2 => hf.2 q g1 (fun z => g2 (hF q z))⟩
theorem frameV {l : Launch} {y : MethodName} {wds : List Cond} {rm : Room} {G : Gt} {av : List Value} {sz mc ms : Nat} {ws wc wr w1 ws1 : va_W} (h : Met l y wds rm (PC G av sz wc) (QV G (va_A wc sz) w1) mc ms (va_A wc sz)) (hp : ws.Perm (wc ++ wr)) (hp1 : (w1 ++ wr).Perm ws1) : Met l y wds rm (PC G av sz ws) (QV G (va_A ws sz) ws1) mc ms (va_A ws sz) := by
  have hF : ∀ q, va_A wc sz q → va_A ws sz q := va_A_perm hp
  refine MetFree.mono h (fun a s hP => PC_sub hp hP) (fun _ _ _ _ _ h => h) (fun a s o t hP hq => ?_)
  obtain ⟨hq, L, hL1, hL2⟩ := hq
  refine ⟨?_, L, hL1, fun q hq => hF _ (hL2 q hq)⟩
  obtain ⟨⟨u, ho, hu, hP1, hD1⟩, hf⟩ := hq
  obtain ⟨h2, h3⟩ := PC_after hp hp1 hP hP1 hD1 hf
  exact ⟨⟨u, ho, hu, h2⟩, h3⟩
theorem frameI {l : Launch} {y : MethodName} {wds : List Cond} {rm : Room} {G : Gt} {av : List Value} {sz mc ms : Nat} {ws wc wr w1 ws1 : va_W} {v : Int32} (h : Met l y wds rm (PC G av sz wc) (QI G v (va_A wc sz) w1) mc ms (va_A wc sz)) (hp : ws.Perm (wc ++ wr)) (hp1 : (w1 ++ wr).Perm ws1) : Met l y wds rm (PC G av sz ws) (QI G v (va_A ws sz) ws1) mc ms (va_A ws sz) := by
  have hF : ∀ q, va_A wc sz q → va_A ws sz q := va_A_perm hp
  refine MetFree.mono h (fun a s hP => PC_sub hp hP) (fun _ _ _ _ _ h => h) (fun a s o t hP hq => ?_)
  obtain ⟨hq, L, hL1, hL2⟩ := hq
  refine ⟨?_, L, hL1, fun q hq => hF _ (hL2 q hq)⟩
  obtain ⟨⟨r, u, ho, hu, hP1, hD1⟩, hf⟩ := hq
  obtain ⟨h2, h3⟩ := PC_after hp hp1 hP hP1 hD1 hf
  exact ⟨⟨r, u, ho, hu, h2⟩, h3⟩
theorem frameZ {l : Launch} {y : MethodName} {wds : List Cond} {rm : Room} {G : Gt} {av : List Value} {sz mc ms : Nat} {ws wc wr w1 ws1 : va_W} {v : Int32} (h : Met l y wds rm (PC G av sz wc) (QZ G v (va_A wc sz) w1) mc ms (va_A wc sz)) (hp : ws.Perm (wc ++ wr)) (hp1 : (w1 ++ wr).Perm ws1) : Met l y wds rm (PC G av sz ws) (QZ G v (va_A ws sz) ws1) mc ms (va_A ws sz) := by
  have hF : ∀ q, va_A wc sz q → va_A ws sz q := va_A_perm hp
  refine MetFree.mono h (fun a s hP => PC_sub hp hP) (fun _ _ _ _ _ h => h) (fun a s o t hP hq => ?_)
  obtain ⟨hq, L, hL1, hL2⟩ := hq
  refine ⟨?_, L, hL1, fun q hq => hF _ (hL2 q hq)⟩
  obtain ⟨⟨r, u, ho, hu, hP1, hD1⟩, hf⟩ := hq
  obtain ⟨h2, h3⟩ := PC_after hp hp1 hP hP1 hD1 hf
  exact ⟨⟨r, u, ho, hu, h2⟩, h3⟩
theorem frameL {l : Launch} {y : MethodName} {wds : List Cond} {rm : Room} {G : Gt} {av : List Value} {sz mc ms : Nat} {ws wc wr w1 ws1 : va_W} {v : Int64} (h : Met l y wds rm (PC G av sz wc) (QL G v (va_A wc sz) w1) mc ms (va_A wc sz)) (hp : ws.Perm (wc ++ wr)) (hp1 : (w1 ++ wr).Perm ws1) : Met l y wds rm (PC G av sz ws) (QL G v (va_A ws sz) ws1) mc ms (va_A ws sz) := by
  have hF : ∀ q, va_A wc sz q → va_A ws sz q := va_A_perm hp
  refine MetFree.mono h (fun a s hP => PC_sub hp hP) (fun _ _ _ _ _ h => h) (fun a s o t hP hq => ?_)
  obtain ⟨hq, L, hL1, hL2⟩ := hq
  refine ⟨?_, L, hL1, fun q hq => hF _ (hL2 q hq)⟩
  obtain ⟨⟨r, u, ho, hu, hP1, hD1⟩, hf⟩ := hq
  obtain ⟨h2, h3⟩ := PC_after hp hp1 hP hP1 hD1 hf
  exact ⟨⟨r, u, ho, hu, h2⟩, h3⟩
theorem frameA {l : Launch} {y : MethodName} {wds : List Cond} {rm : Room} {G : Gt} {av : List Value} {sz mc ms : Nat} {ws wc wr w1 ws1 : va_W} {v : Value} (h : Met l y wds rm (PC G av sz wc) (QA G v (va_A wc sz) w1) mc ms (va_A wc sz)) (hp : ws.Perm (wc ++ wr)) (hp1 : (w1 ++ wr).Perm ws1) : Met l y wds rm (PC G av sz ws) (QA G v (va_A ws sz) ws1) mc ms (va_A ws sz) := by
  have hF : ∀ q, va_A wc sz q → va_A ws sz q := va_A_perm hp
  refine MetFree.mono h (fun a s hP => PC_sub hp hP) (fun _ _ _ _ _ h => h) (fun a s o t hP hq => ?_)
  obtain ⟨hq, L, hL1, hL2⟩ := hq
  refine ⟨?_, L, hL1, fun q hq => hF _ (hL2 q hq)⟩
  obtain ⟨⟨ho, hP1, hD1⟩, hf⟩ := hq
  obtain ⟨h2, h3⟩ := PC_after hp hp1 hP hP1 hD1 hf
  exact ⟨⟨ho, h2⟩, h3⟩
def QNi {S : Type} (G : Gt) (v : Int32) (A : Nat → Prop) (W1 : S → va_W) : Array Value → State → Outcome → State → Prop := va_Qi (fun (r : Int32) (_ : S) => r = v) (fun u t => va_P (gD G) vwCl (W1 u) t.heap ∧ va_D A (W1 u)) A
section MAKES2
variable {p : Program} {l : Launch} {e : Env} {R : Room} {s : State} {m : MethodId} {args : Array Value} {below : List Frame} {meth : Method} {c : Code} {H : Heap} {locs : List Loc} {cells slots : Nat} {Q : State → Prop}
variable {pc : Nat} {ls : Array Slot} {rest : List Value} {A : Nat → Prop} {G : Gt} {ws : va_W} {cc : ByteArray}
theorem NEWQ (hE : EV G s) (hexec : p.tables.exec = Jvm.exec) (hb : c.code = cc) {own C : String} {index : Nat} (hown : s.vm.findClass own = some m.cls) (hclink : (Cond.classLink own index C).before args s = true) (hover : va_AO C s) (t0 : Nat) {cB : ClassId} (ht : (TYS G)[t0]? = some (cB, .object C)) (hP : va_P (gD G) vwCl ws H) (hD : va_D A ws) (hS : va_S A s.heap H locs) (hA : ∀ q, s.heap.size ≤ q → A q)
    {n : Int32} {N' : Nat} (hn : ¬ n < 0) (hN : n.toNatClampNeg = N') (hbytes : N' * 4 ≤ 536870912) (hcells : cells + 1 ≤ R.cells) (hslots : slots + N' ≤ R.slots) (hdg : decode cc pc = .ok (.anewarray index, 3))
    (kk : ∀ (q : Nat) (H1 : Heap), va_P (gD G) vwCl (ws ++ [(q, .inl (cB, N', .inr (.inr (.inr (.inr (fun _ => none))))))]) H1 → va_D A (ws ++ [(q, .inl (cB, N', .inr (.inr (.inr (.inr (fun _ => none))))))]) → va_S A s.heap H1 locs →
      W p l e R s m args below meth c H1 locs (cells + 1) (slots + N') Q (F0 m (pc + 3) ls (.ref q :: rest))) : W p l e R s m args below meth c H locs cells slots Q (F0 m pc ls (.int n :: rest)) := by
  refine va_newq hexec hb hown hclink hover hE.K hP hD hS hA hn hN hbytes hcells hslots hdg (fun q cA H1 hK1 hP1 hD1 hS1 => ?_)
  have e1 := (hE.K.2 t0 _ ht).2
  have e2 := (hK1.2 (TYS G).length (cA, .object C) (by rw [List.getElem?_append_right (Nat.le_refl _), Nat.sub_self]; rfl)).2
  have e3 : cA = cB := by
    obtain ⟨_, _, _, _, _, g1⟩ := e1
    obtain ⟨_, _, _, _, _, g2⟩ := e2
    exact Option.some.inj (g2.symm.trans g1)
  subst e3
  exact kk q H1 hP1 hD1 hS1
end MAKES2
