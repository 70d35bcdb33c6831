def inB (i : Int32) (n : Nat) : Bool := !(decide (i < 0) || decide (n ≤ i.toNatClampNeg))
theorem inB_in {i : Int32} {n : Nat} (h : inB i n = true) : vp_in i n := by
  intro q
  unfold inB at h
  rcases q with q | q
  · rw [decide_eq_true q] at h
    cases h
  · rw [decide_eq_true q, Bool.or_true] at h
    cases h
theorem in_inB {i : Int32} {n : Nat} (h : vp_in i n) : inB i n = true := by
  unfold inB
  rw [decide_eq_false (fun q => h (Or.inl q)), decide_eq_false (fun q => h (Or.inr q))]
  rfl
theorem gd_ {c : Prop} [Decidable c] {R : Type} {A : Option R} {r : R} (h : (if c then A else none) = some r) : c ∧ A = some r := by
  by_cases hc : c
  · rw [if_pos hc] at h
    exact ⟨hc, h⟩
  · rw [if_neg hc] at h
    cases h
theorem gn_ {c : Prop} [Decidable c] {R : Type} {A : Option R} {r : R} (h : (if c then none else A) = some r) : ¬ c ∧ A = some r := by
  by_cases hc : c
  · rw [if_pos hc] at h
    cases h
  · rw [if_neg hc] at h
    exact ⟨hc, h⟩
theorem ip_ {c : Prop} [Decidable c] {R : Type} {A B : Option R} {r : R} (hc : c) (h : (if c then A else B) = some r) : A = some r := by
  rw [if_pos hc] at h
  exact h
theorem in_ {c : Prop} [Decidable c] {R : Type} {A B : Option R} {r : R} (hc : ¬ c) (h : (if c then A else B) = some r) : B = some r := by
  rw [if_neg hc] at h
  exact h
theorem bd_ {α R : Type} {o : Option α} {k : α → Option R} {r : R} (h : o.bind k = some r) : ∃ u, o = some u ∧ k u = some r := by
  cases o with
  | none => cases h
  | some u => exact ⟨u, rfl, h⟩
def lp_ {σ R : Type} (b : (σ → Option R) → σ → Option R) : Nat → σ → Option R
  | 0, _ => none
  | n + 1, s => b (lp_ b n) s
def bl (x : Int32) : Prop := x = 0 ∨ x = 1
theorem bl_0 : bl 0 := Or.inl rfl
theorem bl_1 : bl 1 := Or.inr rfl
theorem bl_n {x : Int32} (h : bl x) : narrow .boolean (.int x) = .int x := by rcases h with rfl | rfl <;> rfl
theorem bl_f {x : Int32} (h : bl x) : fits .boolean (.int x) = true := by rcases h with rfl | rfl <;> rfl
def blB (x : Int32) : Bool := decide (x = 0) || decide (x = 1)
theorem blB_ {x : Int32} (h : blB x = true) : bl x := by
  unfold blB at h
  rcases Bool.or_eq_true_iff.mp h with h | h
  · exact Or.inl (of_decide_eq_true h)
  · exact Or.inr (of_decide_eq_true h)
theorem bl_B {x : Int32} (h : bl x) : blB x = true := by rcases h with rfl | rfl <;> rfl
def va_sets : va_W → List Nat → va_W → va_W
  | ws, i :: is, c :: cs => va_sets (ws.set i c) is cs
  | ws, _, _ => ws
theorem va_sets_P {D : va_G} {cl : List vw_C} {H : Heap} : ∀ (is : List Nat) (w1 ws : va_W), (∀ (k : Nat) (q : Nat × va_E), ws[k]? = some q → k ∉ is → va_at D cl q H) → is.length = w1.length → (∀ q ∈ w1, va_at D cl q H) → va_P D cl (va_sets ws is w1) H
  | [], w1, ws, h, _, _ => by
    cases w1 <;> exact fun k q hk => h k q hk (fun z => by cases z)
  | i :: is, [], ws, _, hl, _ => by cases hl
  | i :: is, c :: cs, ws, h, hl, h1 => by
    refine va_sets_P is cs (ws.set i c) (fun k q hk hn => ?_) (Nat.succ.inj hl) (fun q hq => h1 q (List.mem_cons_of_mem _ hq))
    by_cases hki : k = i
    · subst hki
      by_cases hlt : k < ws.length
      · rw [List.getElem?_set_self hlt] at hk
        cases hk
        exact h1 c List.mem_cons_self
      · rw [List.getElem?_eq_none (by rw [List.length_set]; omega)] at hk
        cases hk
    · rw [List.getElem?_set_ne (Ne.symm hki)] at hk
      exact h k q hk (fun z => by
        rcases List.mem_cons.mp z with z | z
        · exact hki z
        · exact hn z)
theorem va_sets_fst : ∀ (is : List Nat) (w1 ws : va_W), is.map (fun i => (ws.map Prod.fst)[i]?) = w1.map (fun q => some q.1) → (va_sets ws is w1).map Prod.fst = ws.map Prod.fst
  | [], w1, ws, _ => by cases w1 <;> rfl
  | i :: is, [], ws, h => by cases h
  | i :: is, c :: cs, ws, h => by
    rw [List.map_cons, List.map_cons, List.cons.injEq] at h
    have e : (ws.set i c).map Prod.fst = ws.map Prod.fst := by
      rw [List.map_set]
      have h1 := h.1
      apply List.ext_getElem?
      intro j
      by_cases hj : i = j
      · subst hj
        rw [h1, List.getElem?_set_self (List.getElem?_eq_some_iff.mp h1).1]
      · rw [List.getElem?_set_ne hj]
    show (va_sets (ws.set i c) is cs).map Prod.fst = _
    rw [va_sets_fst is cs (ws.set i c) (by rw [e]; exact h.2), e]
theorem va_D_fst {A : Nat → Prop} {ws ws' : va_W} (h : va_D A ws) (e : ws'.map Prod.fst = ws.map Prod.fst) : va_D A ws' := by
  have key : ∀ (i : Nat) (p : Nat × va_E), ws'[i]? = some p → ∃ q, ws[i]? = some q ∧ q.1 = p.1 := by
    intro i p hp
    have h1 : (ws'.map Prod.fst)[i]? = some p.1 := by rw [List.getElem?_map, hp]; rfl
    rw [e, List.getElem?_map] at h1
    cases hq : ws[i]? with
    | none => rw [hq] at h1; cases h1
    | some q => rw [hq] at h1; exact ⟨q, rfl, Option.some.inj h1⟩
  refine ⟨fun i j p q hp hq hpq => ?_, fun k q hk => ?_⟩
  · obtain ⟨p', h1, h2⟩ := key i p hp
    obtain ⟨q', h3, h4⟩ := key j q hq
    exact h.1 i j p' q' h1 h3 (by rw [h2, h4, hpq])
  · obtain ⟨q', h1, h2⟩ := key k q hk
    rw [← h2]
    exact h.2 k q' h1
theorem va_at_of {is : List Nat} {ws wc : va_W} (hC : is.map (fun i => ws[i]?) = wc.map some) {k : Nat} {q : Nat × va_E} (h : wc[k]? = some q) : ∃ i, is[k]? = some i ∧ ws[i]? = some q := by
  have h1 : (is.map (fun i => ws[i]?))[k]? = some (some q) := by rw [hC, List.getElem?_map, h]; rfl
  rw [List.getElem?_map] at h1
  cases hi : is[k]? with
  | none => rw [hi] at h1; cases h1
  | some i => rw [hi] at h1; exact ⟨i, rfl, Option.some.inj h1⟩
theorem va_back {A0 : Nat → Prop} {D : va_G} {cl : List vw_C} {ws wc w1 ws' : va_W} {H H1 : Heap} (hP : va_P D cl ws H) (hD : va_D A0 ws) (is : List Nat) (hC : is.map (fun i => ws[i]?) = wc.map some) (he : w1.map Prod.fst = wc.map Prod.fst) (hw : va_sets ws is w1 = ws')
    (hk : ∀ q : Nat, q < H.size → ¬ va_A wc H.size q → H1[q]? = H[q]?) (hP1 : va_P D cl w1 H1) : va_P D cl ws' H1 ∧ va_D A0 ws' := by
  subst hw
  have hlen : is.length = w1.length := by
    have a1 := congrArg List.length hC
    have a2 := congrArg List.length he
    simp only [List.length_map] at a1 a2
    omega
  refine ⟨va_sets_P is w1 ws (fun k q hq hn => ?_) hlen (fun q hq => ?_), va_D_fst hD (va_sets_fst is w1 ws ?_)⟩
  · have hl := (hP k q hq).lt
    refine (hP k q hq).kept (hk q.1 hl (fun h => ?_))
    rcases h with ⟨k2, e, h⟩ | h
    · obtain ⟨i, h1, h2⟩ := va_at_of hC h
      have := hD.1 k i q (q.1, e) hq h2 rfl
      subst this
      exact hn (List.mem_of_getElem? h1)
    · omega
  · obtain ⟨k, hk⟩ := List.getElem?_of_mem hq
    exact hP1 k q hk
  · have a1 : is.map (fun i => (ws.map Prod.fst)[i]?) = (is.map (fun i => ws[i]?)).map (fun o => o.map Prod.fst) := by
      rw [List.map_map]
      apply List.map_congr_left
      intro i _
      show (ws.map Prod.fst)[i]? = (ws[i]?).map Prod.fst
      rw [List.getElem?_map]
    rw [a1, hC, List.map_map]
    have a2 : (wc.map fun q => some q.1) = (w1.map fun q => some q.1) := by
      have := congrArg (List.map some) he
      simp only [List.map_map] at this
      exact this.symm
    exact a2

theorem va_P_iff {D : va_G} {cl : List vw_C} {ws : va_W} {H : Heap} : va_P D cl ws H ↔ ∀ q ∈ ws, va_at D cl q H := by
  constructor
  · intro h q hq
    obtain ⟨k, hk⟩ := List.getElem?_of_mem hq
    exact h k q hk
  · intro h k q hk
    exact h q (List.mem_of_getElem? hk)
theorem va_D_iff {A : Nat → Prop} {ws : va_W} : va_D A ws ↔ (ws.map Prod.fst).Nodup ∧ ∀ q ∈ ws, A q.1 := by
  constructor
  · intro h
    refine ⟨?_, fun q hq => ?_⟩
    · refine List.pairwise_iff_getElem.mpr (fun i j hi hj hij e => ?_)
      rw [List.length_map] at hi hj
      rw [List.getElem_map, List.getElem_map] at e
      exact Nat.ne_of_lt hij (h.1 i j _ _ (List.getElem?_eq_getElem hi) (List.getElem?_eq_getElem hj) e)
    · obtain ⟨k, hk⟩ := List.getElem?_of_mem hq
      exact h.2 k q hk
  · intro h
    refine ⟨fun i j p q hp hq hpq => ?_, fun k q hk => h.2 q (List.mem_of_getElem? hk)⟩
    have h1 : (ws.map Prod.fst)[i]? = some p.1 := by rw [List.getElem?_map, hp]; rfl
    have h2 : (ws.map Prod.fst)[j]? = some p.1 := by rw [List.getElem?_map, hq]; exact congrArg some hpq.symm
    exact (List.getElem?_inj (List.getElem?_eq_some_iff.mp h1).1 h.1).mp (h1.trans h2.symm)
theorem va_P.perm {D : va_G} {cl : List vw_C} {ws ws' : va_W} {H : Heap} (h : va_P D cl ws H) (hp : ws.Perm ws') : va_P D cl ws' H := va_P_iff.mpr fun q hq => va_P_iff.mp h q (hp.mem_iff.mpr hq)
theorem va_D.perm {A : Nat → Prop} {ws ws' : va_W} (h : va_D A ws) (hp : ws.Perm ws') : va_D A ws' := by
  obtain ⟨h1, h2⟩ := va_D_iff.mp h
  exact va_D_iff.mpr ⟨(hp.map Prod.fst).nodup_iff.mp h1, fun q hq => h2 q (hp.mem_iff.mpr hq)⟩
theorem va_P.left {D : va_G} {cl : List vw_C} {w1 w2 : va_W} {H : Heap} (h : va_P D cl (w1 ++ w2) H) : va_P D cl w1 H := va_P_iff.mpr fun q hq => va_P_iff.mp h q (List.mem_append_left _ hq)
theorem va_D.left {A : Nat → Prop} {w1 w2 : va_W} (h : va_D A (w1 ++ w2)) : va_D A w1 := by
  obtain ⟨h1, h2⟩ := va_D_iff.mp h
  rw [List.map_append] at h1
  exact va_D_iff.mpr ⟨(List.nodup_append.mp h1).1, fun q hq => h2 q (List.mem_append_left _ hq)⟩
theorem va_beside {A0 : Nat → Prop} {D : va_G} {cl : List vw_C} {ws wc wr w1 : va_W} {H H1 : Heap} (hP : va_P D cl ws H) (hD : va_D A0 ws) (hp : ws.Perm (wc ++ wr))
    (hk : ∀ q : Nat, q < H.size → ¬ va_A wc H.size q → H1[q]? = H[q]?) (hF : ∀ q, va_A wc H.size q → A0 q) (hP1 : va_P D cl w1 H1) (hD1 : va_D (va_A wc H.size) w1) : va_P D cl (w1 ++ wr) H1 ∧ va_D A0 (w1 ++ wr) := by
  have hP' := hP.perm hp
  obtain ⟨n1, a1⟩ := va_D_iff.mp (hD.perm hp)
  rw [List.map_append, List.nodup_append] at n1
  obtain ⟨nc, nr, dis⟩ := n1
  have apart : ∀ q ∈ wr, q.1 < H.size ∧ ¬ va_A wc H.size q.1 := by
    intro q hq
    have hl := (va_P_iff.mp hP' q (List.mem_append_right _ hq)).lt
    refine ⟨hl, fun h => ?_⟩
    rcases h with ⟨k, e, h⟩ | h
    · exact dis q.1 (List.mem_map.mpr ⟨_, List.mem_of_getElem? h, rfl⟩) q.1 (List.mem_map.mpr ⟨q, hq, rfl⟩) rfl
    · omega
  obtain ⟨m1, b1⟩ := va_D_iff.mp hD1
  refine ⟨va_P_iff.mpr fun q hq => ?_, va_D_iff.mpr ⟨?_, fun q hq => ?_⟩⟩
  · rcases List.mem_append.mp hq with h | h
    · exact va_P_iff.mp hP1 q h
    · exact (va_P_iff.mp hP' q (List.mem_append_right _ h)).kept (hk q.1 (apart q h).1 (apart q h).2)
  · rw [List.map_append, List.nodup_append]
    refine ⟨m1, nr, fun a ha b hb e => ?_⟩
    obtain ⟨x, hx, ex⟩ := List.mem_map.mp ha
    obtain ⟨y, hy, ey⟩ := List.mem_map.mp hb
    exact (apart y hy).2 (by rw [ey, ← e, ← ex]; exact b1 x hx)
  · rcases List.mem_append.mp hq with h | h
    · exact hF _ (b1 q h)
    · exact a1 q (List.mem_append_right _ h)
theorem va_freeQ {A0 : Nat → Prop} {ws wc wr : va_W} {H0 H : Heap} {locs : List Loc} (hD : va_D A0 ws) (hS : va_S A0 H0 H locs) (hA : ∀ q, H0.size ≤ q → A0 q) (hp : ws.Perm (wc ++ wr)) : ∀ q, va_A wc H.size q → A0 q := by
  intro q h
  rcases h with ⟨k, e, h⟩ | h
  · exact (va_D_iff.mp hD).2 (q, e) (hp.mem_iff.mpr (List.mem_append_left _ (List.mem_of_getElem? h)))
  · exact hA q (Nat.le_trans hS.1 h)

theorem gI {y : MethodName} {b : ByteArray} {n : Nat} {ret : Option FieldType} (h : Cond.code y b n ret ∈ gw) : GoodIn gw (.code y b n ret :: gw) := fun w hw => by
  rcases List.mem_cons.mp hw with rfl | hw
  · exact gw_ok _ h
  · exact gw_ok _ hw
theorem gV {own C : String} {idx : Nat} {y : MethodName} {b : ByteArray} {n : Nat} {ret : Option FieldType} (h1 : Cond.methodLink own idx y ∈ gw) (h2 : Cond.instanceMethod y ∈ gw) (h3 : Cond.selects C y y ∈ gw) (h4 : Cond.initialized C ∈ gw) (h5 : Cond.code y b n ret ∈ gw) : GoodIn gw (wsV own idx C y (.code y b n ret :: gw)) := fun w hw => by
  rcases List.mem_append.mp hw with hw | hw
  · have : w = .methodLink own idx y ∨ w = .instanceMethod y ∨ w = .selects C y y ∨ w = .initialized C := by simpa using hw
    rcases this with rfl | rfl | rfl | rfl
    · exact gw_ok _ h1
    · exact gw_ok _ h2
    · exact gw_ok _ h3
    · exact gw_ok _ h4
  · exact gI h5 w hw
theorem gS {own : String} {idx : Nat} {y : MethodName} {b : ByteArray} {n : Nat} {ret : Option FieldType} (h1 : Cond.methodLink own idx y ∈ gw) (h2 : Cond.static y ∈ gw) (h4 : Cond.initialized y.cls ∈ gw) (h5 : Cond.code y b n ret ∈ gw) : GoodIn gw (va_wsS own idx y (.code y b n ret :: gw)) := fun w hw => by
  rcases List.mem_append.mp hw with hw | hw
  · have : w = .methodLink own idx y ∨ w = .static y ∨ w = .initialized y.cls := by simpa using hw
    rcases this with rfl | rfl | rfl
    · exact gw_ok _ h1
    · exact gw_ok _ h2
    · exact gw_ok _ h4
  · exact gI h5 w hw
abbrev Gt : Type := va_G × (Nat → ClassId) × Nat × (Nat → Nat) × (Nat → Nat) × (Nat → Nat) × Nat × Option Nat
abbrev gD (G : Gt) : va_G := G.1
abbrev gC (G : Gt) (k : Nat) : ClassId := G.2.1 k
abbrev gb (G : Gt) : Nat := G.2.2.1
abbrev gK (G : Gt) (k : Nat) : Nat := G.2.2.2.1 k
abbrev gT (G : Gt) (k : Nat) : Nat := G.2.2.2.2.1 k
abbrev gU (G : Gt) (k : Nat) : Nat := G.2.2.2.2.2.1 k
abbrev gM (G : Gt) : Nat := G.2.2.2.2.2.2.1
abbrev gF (G : Gt) : Option Nat := G.2.2.2.2.2.2.2
abbrev gA0 (G : Gt) : Nat → Prop := fun q => gb G ≤ q
abbrev TYS (G : Gt) : List (ClassId × FieldType) := [(gC G 0, .byte), (gC G 1, .int), (gC G 2, .long), (gC G 3, .boolean), (gC G 4, .object "SpecifierDesk$Argument")]
abbrev kF : List (String × String × String × List Int32) := [("java/lang/Enum", "ordinal", "I", [0, 1, 2, 3, 4, 5, 6, 7])]
def kOrd (i : Nat) : Int32 := ([0, 1, 2, 3, 4, 5, 6, 7] : List Int32).getD i 0
def swm (i : Nat) : Int32 := ([0, 1, 2, 0, 0, 3, 4, 5] : List Int32).getD i 0
def ST (G : Gt) (U : State) (H : Heap) : Prop :=
  va_En "SpecifierDesk$Kind" "LSpecifierDesk$Kind;" kNm kF (gK G) (gA0 G) U H ∧
  (∀ i, i < 8 → va_OF "SpecifierDesk$Kind" "conversions" "Ljava/lang/String;" (.ref (gT G (kConv i))) (gK G i) (gA0 G) U H) ∧
  vk_S nS sLen sByt (gT G) (gU G) (gA0 G) U H ∧
  va_Z "java/lang/String" "COMPACT_STRINGS" "Z" (.int 1) (gA0 G) U H ∧
  va_Z "SpecifierDesk$1" "$SwitchMap$SpecifierDesk$Kind" "[I" (.ref (gM G)) (gA0 G) U H ∧
  va_T .int (gM G) 8 (fun j => .int (swm j)) (gA0 G) U H ∧
  va_Z "jdk/internal/util/Preconditions" "SIOOBE_FORMATTER" "Ljava/util/function/BiFunction;" (va_rf (gF G)) (gA0 G) U H
theorem ST.moved {G : Gt} {u U : State} {H : Heap} (hvm : u.vm.Alike U.vm) (h : ST G u H) : ST G U H :=
  ⟨va_En.moved hvm h.1, fun i hi => va_OF.moved hvm (h.2.1 i hi), vk_S.moved hvm h.2.2.1, va_Z.moved hvm h.2.2.2.1, va_Z.moved hvm h.2.2.2.2.1, va_T.moved hvm h.2.2.2.2.2.1, va_Z.moved hvm h.2.2.2.2.2.2⟩
theorem ST.kept {G : Gt} {U : State} {H H1 : Heap} (h : ST G U H) (hq : ∀ a : Nat, a < H.size → ¬ gA0 G a → H1[a]? = H[a]?) : ST G U H1 :=
  ⟨h.1.kept hq, fun i hi => (h.2.1 i hi).kept hq, h.2.2.1.kept hq, h.2.2.2.1.kept hq, h.2.2.2.2.1.kept hq, h.2.2.2.2.2.1.kept hq, h.2.2.2.2.2.2.kept hq⟩
def SRs (G : Gt) (U : State) : Prop := ∀ e ∈ sRef, vk_R e.1 e.2.1 e.2.2.1 (gT G e.2.2.2) U
def EV (G : Gt) (U : State) : Prop := gb G ≤ U.heap.size ∧ va_K (gD G) vwCl (TYS G) U ∧ (∀ w ∈ nwL, va_Nw w U) ∧ ST G U U.heap ∧ SRs G U
theorem EV.K {G : Gt} {U : State} (h : EV G U) : va_K (gD G) vwCl (TYS G) U := h.2.1
theorem EV.nw {G : Gt} {U : State} (h : EV G U) : ∀ w ∈ nwL, va_Nw w U := h.2.2.1
theorem EV.sr {G : Gt} {U : State} (h : EV G U) : ∀ e ∈ sRef, vk_R e.1 e.2.1 e.2.2.1 (gT G e.2.2.2) U := h.2.2.2.2
theorem EV.kz {G : Gt} {U : State} {A : Nat → Prop} (h : EV G U) (hAb : ∀ q, A q → gb G ≤ q) (i : Nat) (hi : i < 8) : va_Z "SpecifierDesk$Kind" (kNm.getD i "") "LSpecifierDesk$Kind;" (.ref (gK G i)) A U U.heap := ((h.2.2.2.1.1.1 i hi).1).narrow hAb
theorem EV.en {G : Gt} {U : State} {A : Nat → Prop} (h : EV G U) (hAb : ∀ q, A q → gb G ≤ q) : va_En "SpecifierDesk$Kind" "LSpecifierDesk$Kind;" kNm kF (gK G) A U U.heap := h.2.2.2.1.1.narrow hAb
theorem EV.kc {G : Gt} {U : State} {A : Nat → Prop} (h : EV G U) (hAb : ∀ q, A q → gb G ≤ q) (i : Nat) (hi : i < 8) : va_OF "SpecifierDesk$Kind" "conversions" "Ljava/lang/String;" (.ref (gT G (kConv i))) (gK G i) A U U.heap := (h.2.2.2.1.2.1 i hi).narrow hAb
theorem EV.vs {G : Gt} {U : State} {A : Nat → Prop} (h : EV G U) (hAb : ∀ q, A q → gb G ≤ q) : vk_S nS sLen sByt (gT G) (gU G) A U U.heap := h.2.2.2.1.2.2.1.narrow hAb
theorem EV.cs {G : Gt} {U : State} {A : Nat → Prop} (h : EV G U) (hAb : ∀ q, A q → gb G ≤ q) : va_Z "java/lang/String" "COMPACT_STRINGS" "Z" (.int 1) A U U.heap := h.2.2.2.1.2.2.2.1.narrow hAb
theorem EV.sm {G : Gt} {U : State} {A : Nat → Prop} (h : EV G U) (hAb : ∀ q, A q → gb G ≤ q) : va_Z "SpecifierDesk$1" "$SwitchMap$SpecifierDesk$Kind" "[I" (.ref (gM G)) A U U.heap := h.2.2.2.1.2.2.2.2.1.narrow hAb
theorem EV.st {G : Gt} {U : State} {A : Nat → Prop} (h : EV G U) (hAb : ∀ q, A q → gb G ≤ q) : va_T .int (gM G) 8 (fun j => .int (swm j)) A U U.heap := h.2.2.2.1.2.2.2.2.2.1.narrow hAb
theorem EV.ff {G : Gt} {U : State} {A : Nat → Prop} (h : EV G U) (hAb : ∀ q, A q → gb G ≤ q) : va_Z "jdk/internal/util/Preconditions" "SIOOBE_FORMATTER" "Ljava/util/function/BiFunction;" (va_rf (gF G)) A U U.heap := h.2.2.2.1.2.2.2.2.2.2.narrow hAb
theorem EV.kinj {G : Gt} {U : State} (h : EV G U) {i j : Nat} (hi : i < 8) (hj : j < 8) (e : gK G i = gK G j) : i = j := h.2.2.2.1.1.2 i j hi hj e
theorem EV.ab {G : Gt} {s : State} {W0 : va_W} (hE : EV G s) (hD0 : va_D (fun q => gb G ≤ q) W0) : ∀ q, va_A W0 s.heap.size q → gb G ≤ q := by
  intro q h
  rcases h with ⟨k, e, h⟩ | h
  · exact hD0.2 k (q, e) h
  · exact Nat.le_trans hE.1 h
theorem EV.to {G : Gt} {s U : State} {A : Nat → Prop} {H : Heap} {locs : List Loc} (hE : EV G s) (hS : va_S A s.heap H locs) (hAb : ∀ q, A q → gb G ≤ q) (hU : U.heap = H) (hW : s.WarmedH U.vm) : EV G U := by
  refine ⟨by rw [hU]; exact Nat.le_trans hE.1 hS.1, va_K.moved hW.alike hE.2.1, fun w hw => nw_warm w hw hW (hE.2.2.1 w hw), ?_, fun e he => vk_R.warm hW (hE.2.2.2.2 e he)⟩
  rw [hU]
  exact (ST.moved hW.alike hE.2.2.2.1).kept (fun a h1 h2 => hS.2.1 a h1 (fun z => h2 (hAb a z)))
def PC (G : Gt) (av : List Value) (sz : Nat) (W0 : va_W) : Array Value → State → Prop := va_Pc av (fun U => U.heap.size = sz ∧ va_P (gD G) vwCl W0 U.heap ∧ EV G U ∧ va_D (fun q => gb G ≤ q) W0)
theorem PC_b {G : Gt} {av : List Value} {sz : Nat} {W0 : va_W} : FrameBlind (PC G av sz W0) := fun a U g mk q => by
  obtain ⟨q0, q1, qP, qE, qD⟩ := q
  exact ⟨q0, q1, qP, ⟨qE.1, va_K.moved (u := U) (U := U.calling g mk a) (Vm.Alike.refl U.vm) qE.2.1, fun w hw => nw_same w hw (u := U) (U := U.calling g mk a) rfl (qE.2.2.1 w hw), ST.moved (u := U) (U := U.calling g mk a) (Vm.Alike.refl U.vm) qE.2.2.2.1, fun e he => vk_R.same (u := U) (U := U.calling g mk a) rfl (qE.2.2.2.2 e he)⟩, qD⟩
theorem PC_p {G : Gt} {av : List Value} {s : State} {A : Nat → Prop} {H : Heap} {locs : List Loc} {wc : va_W} (hE : EV G s) (hS : va_S A s.heap H locs) (hAb : ∀ q, A q → gb G ≤ q) (hP : va_P (gD G) vwCl wc H) (hD : va_D A wc) : ∀ U : State, U.heap = H → s.WarmedH U.vm → PC G av H.size wc av.toArray U :=
  fun U hU hW => ⟨rfl, by rw [hU], by rw [hU]; exact hP, hE.to hS hAb hU hW, hD.weaken (fun _ _ _ h => hAb _ h)⟩
def QV (G : Gt) (A : Nat → Prop) (W1 : va_W) : Array Value → State → Outcome → State → Prop := va_Qv (fun _ : Unit => True) (fun _ t => va_P (gD G) vwCl W1 t.heap ∧ va_D A W1) A
def QI (G : Gt) (v : Int32) (A : Nat → Prop) (W1 : va_W) : Array Value → State → Outcome → State → Prop := va_Qi (fun (r : Int32) (_ : Unit) => r = v) (fun _ t => va_P (gD G) vwCl W1 t.heap ∧ va_D A W1) A
def QZ (G : Gt) (v : Int32) (A : Nat → Prop) (W1 : va_W) : Array Value → State → Outcome → State → Prop := va_Qi (fun (r : Int32) (_ : Unit) => r = v ∧ bl r) (fun _ t => va_P (gD G) vwCl W1 t.heap ∧ va_D A W1) A
def QL (G : Gt) (v : Int64) (A : Nat → Prop) (W1 : va_W) : Array Value → State → Outcome → State → Prop := va_Ql (fun (r : Int64) (_ : Unit) => r = v) (fun _ t => va_P (gD G) vwCl W1 t.heap ∧ va_D A W1) A
section CALLS
variable {p : Program} {l : Launch} {e : Env} {R : Room} {s : State} {m : MethodId} {args : Array Value} {below : List Frame} {meth : Method} {c : Code} {H : Heap} {locs : List Loc} {cells slots : Nat} {Q : State → Prop}
variable {pc : Nat} {ls : Array Slot} {rest st0 : List Value} {a : Array Value} {A : Nat → Prop} {mc ms : Nat} {G : Gt} {ws wc w1 ws' : va_W}
theorem CALLv (hr : va_Run p l e R s m args below meth c H locs cells slots mc ms (F0 m pc ls st0) rest (QV G (va_A wc H.size) w1 a) (va_A wc H.size)) (hP : va_P (gD G) vwCl ws H) (hD : va_D A ws) (hS : va_S A s.heap H locs) (hA : ∀ q, s.heap.size ≤ q → A q) (is : List Nat) (hC : is.map (fun i => ws[i]?) = wc.map some) (he : w1.map Prod.fst = wc.map Prod.fst) (hw : va_sets ws is w1 = ws')
    (kk : ∀ (H1 : Heap) (locs1 : List Loc), va_P (gD G) vwCl ws' H1 → va_D A ws' → va_S A s.heap H1 locs1 → W p l e R s m args below meth c H1 locs1 (cells + mc) (slots + ms) Q (F0 m (pc + 3) ls rest)) : W p l e R s m args below meth c H locs cells slots Q (F0 m pc ls st0) := by
  have hF := va_free hD hS hA is hC
  refine va_callv hr hS (fun q _ h => hF q h) hF (fun u t H1 locs1 ht _ _ hB _ hk hS1 => ?_)
  obtain ⟨hP1, _⟩ := hB
  rw [ht] at hP1
  obtain ⟨hP2, hD2⟩ := va_back hP hD is hC he hw hk hP1
  exact kk H1 locs1 hP2 hD2 hS1
theorem CALLi {v : Int32} (hr : va_Run p l e R s m args below meth c H locs cells slots mc ms (F0 m pc ls st0) rest (QI G v (va_A wc H.size) w1 a) (va_A wc H.size)) (hP : va_P (gD G) vwCl ws H) (hD : va_D A ws) (hS : va_S A s.heap H locs) (hA : ∀ q, s.heap.size ≤ q → A q) (is : List Nat) (hC : is.map (fun i => ws[i]?) = wc.map some) (he : w1.map Prod.fst = wc.map Prod.fst) (hw : va_sets ws is w1 = ws')
    (kk : ∀ (H1 : Heap) (locs1 : List Loc), va_P (gD G) vwCl ws' H1 → va_D A ws' → va_S A s.heap H1 locs1 → W p l e R s m args below meth c H1 locs1 (cells + mc) (slots + ms) Q (F0 m (pc + 3) ls (.int v :: rest))) : W p l e R s m args below meth c H locs cells slots Q (F0 m pc ls st0) := by
  have hF := va_free hD hS hA is hC
  refine va_calli hr hS (fun q _ h => hF q h) hF (fun r u t H1 locs1 ht _ hv hB _ hk hS1 => ?_)
  obtain ⟨hP1, _⟩ := hB
  rw [ht] at hP1
  obtain ⟨hP2, hD2⟩ := va_back hP hD is hC he hw hk hP1
  subst hv
  exact kk H1 locs1 hP2 hD2 hS1
theorem CALLz {v : Int32} (hr : va_Run p l e R s m args below meth c H locs cells slots mc ms (F0 m pc ls st0) rest (QZ G v (va_A wc H.size) w1 a) (va_A wc H.size)) (hP : va_P (gD G) vwCl ws H) (hD : va_D A ws) (hS : va_S A s.heap H locs) (hA : ∀ q, s.heap.size ≤ q → A q) (is : List Nat) (hC : is.map (fun i => ws[i]?) = wc.map some) (he : w1.map Prod.fst = wc.map Prod.fst) (hw : va_sets ws is w1 = ws')
    (kk : bl v → ∀ (H1 : Heap) (locs1 : List Loc), va_P (gD G) vwCl ws' H1 → va_D A ws' → va_S A s.heap H1 locs1 → W p l e R s m args below meth c H1 locs1 (cells + mc) (slots + ms) Q (F0 m (pc + 3) ls (.int v :: rest))) : W p l e R s m args below meth c H locs cells slots Q (F0 m pc ls st0) := by
  have hF := va_free hD hS hA is hC
  refine va_calli hr hS (fun q _ h => hF q h) hF (fun r u t H1 locs1 ht _ hv hB _ hk hS1 => ?_)
  obtain ⟨hP1, _⟩ := hB
  rw [ht] at hP1
  obtain ⟨hP2, hD2⟩ := va_back hP hD is hC he hw hk hP1
  obtain ⟨hv, hb⟩ := hv
  subst hv
  exact kk hb H1 locs1 hP2 hD2 hS1
theorem CALLl {v : Int64} (hr : va_Run p l e R s m args below meth c H locs cells slots mc ms (F0 m pc ls st0) rest (QL G v (va_A wc H.size) w1 a) (va_A wc H.size)) (hP : va_P (gD G) vwCl ws H) (hD : va_D A ws) (hS : va_S A s.heap H locs) (hA : ∀ q, s.heap.size ≤ q → A q) (is : List Nat) (hC : is.map (fun i => ws[i]?) = wc.map some) (he : w1.map Prod.fst = wc.map Prod.fst) (hw : va_sets ws is w1 = ws')
    (kk : ∀ (H1 : Heap) (locs1 : List Loc), va_P (gD G) vwCl ws' H1 → va_D A ws' → va_S A s.heap H1 locs1 → W p l e R s m args below meth c H1 locs1 (cells + mc) (slots + ms) Q (F0 m (pc + 3) ls (.long v :: rest))) : W p l e R s m args below meth c H locs cells slots Q (F0 m pc ls st0) := by
  have hF := va_free hD hS hA is hC
  refine va_calll hr hS (fun q _ h => hF q h) hF (fun r u t H1 locs1 ht _ hv hB _ hk hS1 => ?_)
  obtain ⟨hP1, _⟩ := hB
  rw [ht] at hP1
  obtain ⟨hP2, hD2⟩ := va_back hP hD is hC he hw hk hP1
  subst hv
  exact kk H1 locs1 hP2 hD2 hS1
theorem CALLWv (hr : va_Run p l e R s m args below meth c H locs cells slots mc ms (F0 m pc ls st0) rest (QV G (va_A ws H.size) w1 a) (va_A ws H.size)) (_hP : va_P (gD G) vwCl ws H) (hD : va_D A ws) (hS : va_S A s.heap H locs) (hA : ∀ q, s.heap.size ≤ q → A q)
    (kk : ∀ (H1 : Heap) (locs1 : List Loc), va_P (gD G) vwCl w1 H1 → va_D A w1 → va_S A s.heap H1 locs1 → W p l e R s m args below meth c H1 locs1 (cells + mc) (slots + ms) Q (F0 m (pc + 3) ls rest)) : W p l e R s m args below meth c H locs cells slots Q (F0 m pc ls st0) := by
  have hF : ∀ q, va_A ws H.size q → A q := fun q h => by
    rcases h with ⟨k, e, h⟩ | h
    · exact hD.2 k (q, e) h
    · exact hA q (Nat.le_trans hS.1 h)
  refine va_callv hr hS (fun q _ h => hF q h) hF (fun u t H1 locs1 ht _ _ hB _ hk hS1 => ?_)
  obtain ⟨hP1, hD1⟩ := hB
  rw [ht] at hP1
  exact kk H1 locs1 hP1 (hD1.weaken (fun _ _ _ h => hF _ h)) hS1
theorem CALLWi {v : Int32} (hr : va_Run p l e R s m args below meth c H locs cells slots mc ms (F0 m pc ls st0) rest (QI G v (va_A ws H.size) w1 a) (va_A ws H.size)) (_hP : va_P (gD G) vwCl ws H) (hD : va_D A ws) (hS : va_S A s.heap H locs) (hA : ∀ q, s.heap.size ≤ q → A q)
    (kk : ∀ (H1 : Heap) (locs1 : List Loc), va_P (gD G) vwCl w1 H1 → va_D A w1 → va_S A s.heap H1 locs1 → W p l e R s m args below meth c H1 locs1 (cells + mc) (slots + ms) Q (F0 m (pc + 3) ls (.int v :: rest))) : W p l e R s m args below meth c H locs cells slots Q (F0 m pc ls st0) := by
  have hF : ∀ q, va_A ws H.size q → A q := fun q h => by
    rcases h with ⟨k, e, h⟩ | h
    · exact hD.2 k (q, e) h
    · exact hA q (Nat.le_trans hS.1 h)
  refine va_calli hr hS (fun q _ h => hF q h) hF (fun r u t H1 locs1 ht _ hv hB _ hk hS1 => ?_)
  obtain ⟨hP1, hD1⟩ := hB
  rw [ht] at hP1
  subst hv
  exact kk H1 locs1 hP1 (hD1.weaken (fun _ _ _ h => hF _ h)) hS1
theorem CALLWl {v : Int64} (hr : va_Run p l e R s m args below meth c H locs cells slots mc ms (F0 m pc ls st0) rest (QL G v (va_A ws H.size) w1 a) (va_A ws H.size)) (_hP : va_P (gD G) vwCl ws H) (hD : va_D A ws) (hS : va_S A s.heap H locs) (hA : ∀ q, s.heap.size ≤ q → A q)
    (kk : ∀ (H1 : Heap) (locs1 : List Loc), va_P (gD G) vwCl w1 H1 → va_D A w1 → va_S A s.heap H1 locs1 → W p l e R s m args below meth c H1 locs1 (cells + mc) (slots + ms) Q (F0 m (pc + 3) ls (.long v :: rest))) : W p l e R s m args below meth c H locs cells slots Q (F0 m pc ls st0) := by
  have hF : ∀ q, va_A ws H.size q → A q := fun q h => by
    rcases h with ⟨k, e, h⟩ | h
    · exact hD.2 k (q, e) h
    · exact hA q (Nat.le_trans hS.1 h)
  refine va_calll hr hS (fun q _ h => hF q h) hF (fun r u t H1 locs1 ht _ hv hB _ hk hS1 => ?_)
  obtain ⟨hP1, hD1⟩ := hB
  rw [ht] at hP1
  subst hv
  exact kk H1 locs1 hP1 (hD1.weaken (fun _ _ _ h => hF _ h)) hS1
theorem CALLWz {v : Int32} (hr : va_Run p l e R s m args below meth c H locs cells slots mc ms (F0 m pc ls st0) rest (QZ G v (va_A ws H.size) w1 a) (va_A ws H.size)) (_hP : va_P (gD G) vwCl ws H) (hD : va_D A ws) (hS : va_S A s.heap H locs) (hA : ∀ q, s.heap.size ≤ q → A q)
    (kk : bl v → ∀ (H1 : Heap) (locs1 : List Loc), va_P (gD G) vwCl w1 H1 → va_D A w1 → va_S A s.heap H1 locs1 → W p l e R s m args below meth c H1 locs1 (cells + mc) (slots + ms) Q (F0 m (pc + 3) ls (.int v :: rest))) : W p l e R s m args below meth c H locs cells slots Q (F0 m pc ls st0) := by
  have hF : ∀ q, va_A ws H.size q → A q := fun q h => by
    rcases h with ⟨k, e, h⟩ | h
    · exact hD.2 k (q, e) h
    · exact hA q (Nat.le_trans hS.1 h)
  refine va_calli hr hS (fun q _ h => hF q h) hF (fun r u t H1 locs1 ht _ hv hB _ hk hS1 => ?_)
  obtain ⟨hP1, hD1⟩ := hB
  rw [ht] at hP1
  obtain ⟨hv, hb⟩ := hv
  subst hv
  exact kk hb H1 locs1 hP1 (hD1.weaken (fun _ _ _ h => hF _ h)) hS1
end CALLS
theorem gU_ {own C owner : String} {idx : Nat} {x y : MethodName} {b : ByteArray} {n : Nat} {ret : Option FieldType} (h1 : Cond.methodLink own idx x ∈ gw) (h2 : Cond.sameMethod x.cls owner x.name x.desc ∈ gw) (h3 : Cond.selects C x y ∈ gw) (h4 : Cond.instanceMethod y ∈ gw) (h5 : Cond.initialized y.cls ∈ gw) (h6 : Cond.code y b n ret ∈ gw) : GoodIn gw (va_wsU own idx C owner x y (.code y b n ret :: gw)) := fun w hw => by
  rcases List.mem_append.mp hw with hw | hw
  · have : w = .methodLink own idx x ∨ w = .sameMethod x.cls owner x.name x.desc ∨ w = .selects C x y ∨ w = .instanceMethod y ∨ w = .initialized y.cls := by simpa using hw
    rcases this with rfl | rfl | rfl | rfl | rfl
    · exact gw_ok _ h1
    · exact gw_ok _ h2
    · exact gw_ok _ h3
    · exact gw_ok _ h4
    · exact gw_ok _ h5
  · exact gI h6 w hw
section ACMP
variable {p : Program} {l : Launch} {e : Env} {R : Room} {s : State} {m : MethodId} {args : Array Value} {below : List Frame} {meth : Method} {c : Code} {H : Heap} {locs : List Loc} {cells slots : Nat} {Q : State → Prop}
variable {cc : ByteArray} {pc : Nat} {ls : Array Slot} {rest : List Value} {G : Gt}
theorem ac_eq (hE : EV G s) {i j : Nat} (hi : i < 8) (hj : j < 8) (hexec : p.tables.exec = Jvm.exec) (hb : c.code = cc) {off : Int} {tgt : Nat} (hdg : decode cc pc = .ok (.if_acmp .eq off, 3)) (ht : (pc : Int) + off = (tgt : Int))
    (kt : i = j → W p l e R s m args below meth c H locs cells slots Q (F0 m tgt ls rest)) (kf : ¬ i = j → W p l e R s m args below meth c H locs cells slots Q (F0 m (pc + 3) ls rest)) : W p l e R s m args below meth c H locs cells slots Q (F0 m pc ls (.ref (gK G j) :: .ref (gK G i) :: rest)) :=
  lv_acmp_eq (rx := some (gK G i)) (ry := some (gK G j)) hexec hb hdg ht (fun h => kt (hE.kinj hi hj (Option.some.inj h))) (fun h => kf (fun z => h (by rw [z])))
theorem ac_ne (hE : EV G s) {i j : Nat} (hi : i < 8) (hj : j < 8) (hexec : p.tables.exec = Jvm.exec) (hb : c.code = cc) {off : Int} {tgt : Nat} (hdg : decode cc pc = .ok (.if_acmp .ne off, 3)) (ht : (pc : Int) + off = (tgt : Int))
    (kt : ¬ i = j → W p l e R s m args below meth c H locs cells slots Q (F0 m tgt ls rest)) (kf : i = j → W p l e R s m args below meth c H locs cells slots Q (F0 m (pc + 3) ls rest)) : W p l e R s m args below meth c H locs cells slots Q (F0 m pc ls (.ref (gK G j) :: .ref (gK G i) :: rest)) :=
  lv_acmp_ne (rx := some (gK G i)) (ry := some (gK G j)) hexec hb hdg ht (fun h => kt (fun z => h (by rw [z]))) (fun h => kf (hE.kinj hi hj (Option.some.inj h)))
end ACMP
section LDCW
variable {p : Program} {l : Launch} {e : Env} {R : Room} {s : State} {m : MethodId} {args : Array Value} {below : List Frame} {meth : Method} {c : Code} {H : Heap} {locs : List Loc} {cells slots : Nat} {Q : State → Prop}
variable {cc : ByteArray} {pc : Nat} {ls : Array Slot} {rest : List Value}
theorem va_ldcSw (hexec : p.tables.exec = Jvm.exec) (hb : c.code = cc) {own tx : String} {index q : Nat} (hown : s.vm.findClass own = some m.cls) (hZ : vk_R own index tx q s) (hdg : decode cc pc = .ok (.ldc_w index, 3))
    (k : W p l e R s m args below meth c H locs cells slots Q (F0 m (pc + 3) ls (.ref q :: rest))) : W p l e R s m args below meth c H locs cells slots Q (F0 m pc ls rest) := by
  intro T hT X
  obtain ⟨t, a1, b1⟩ := k T hT X
  exact ⟨t, X.ldcStringW hexec hown (text := tx) (a := q) hZ.1 hZ.2 (g := F0 m pc ls rest) rfl (by rw [hb]; exact hdg) t a1, b1⟩
end LDCW
def chB (x : Int32) : Bool := decide ((x.toUInt32 % 65536).toInt32 = x)
theorem chB_ {x : Int32} (h : chB x = true) : narrow .char (.int x) = .int x := by
  have h := of_decide_eq_true h
  have h2 := pk_nc x
  rw [h] at h2
  exact h2
theorem chF_ {x : Int32} (h : chB x = true) : fits .char (.int x) = true := by
  have h := of_decide_eq_true h
  have h2 := pk_fc x
  rw [h] at h2
  exact h2
def QN {S : Type} (G : Gt) (A : Nat → Prop) (W1 : S → va_W) : Array Value → State → Outcome → State → Prop := va_Qv (fun _ : S => True) (fun u t => va_P (gD G) vwCl (W1 u) t.heap ∧ va_D A (W1 u)) A
section MAKES
variable {p : Program} {l : Launch} {e : Env} {R : Room} {s : State} {m : MethodId} {args : Array Value} {below : List Frame} {meth : Method} {c : Code} {H : Heap} {locs : List Loc} {cells slots : Nat} {Q : State → Prop}
variable {pc : Nat} {ls : Array Slot} {rest st0 : List Value} {a : Array Value} {A : Nat → Prop} {mc ms : Nat} {G : Gt} {ws wc wr : va_W} {cc : ByteArray}
theorem CALLn {S : Type} {w1 : S → va_W} (hr : va_Run p l e R s m args below meth c H locs cells slots mc ms (F0 m pc ls st0) rest (QN G (va_A wc H.size) w1 a) (va_A wc H.size)) (hP : va_P (gD G) vwCl ws H) (hD : va_D A ws) (hS : va_S A s.heap H locs) (hA : ∀ q, s.heap.size ≤ q → A q) (isC isR : List Nat) (hC : isC.map (fun i => ws[i]?) = wc.map some) (hR : isR.map (fun i => ws[i]?) = wr.map some) (hn : va_nd isR = true) (hdis : ∀ i ∈ isR, i ∉ isC)
    (kk : ∀ (u : S) (H1 : Heap) (locs1 : List Loc), va_P (gD G) vwCl (wr ++ w1 u) H1 → va_D A (wr ++ w1 u) → va_S A s.heap H1 locs1 → W p l e R s m args below meth c H1 locs1 (cells + mc) (slots + ms) Q (F0 m (pc + 3) ls rest)) : W p l e R s m args below meth c H locs cells slots Q (F0 m pc ls st0) := by
  have hF := va_free hD hS hA isC hC
  refine va_callv hr hS (fun q _ h => hF q h) hF (fun u t H1 locs1 ht _ _ hB _ hk hS1 => ?_)
  obtain ⟨hP1, hD1⟩ := hB
  rw [ht] at hP1
  obtain ⟨hP2, hD2⟩ := va_join hP hD isC isR hC hR hn hdis hk hF hP1 hD1
  exact kk u H1 locs1 hP2 hD2 hS1
theorem NEWA (hE : EV G s) (hexec : p.tables.exec = Jvm.exec) (hb : c.code = cc) {atype : ArrayType} (harr : (Cond.arrayClass (newarray.typeOf atype)).before args s = true) {ty : FieldType} (hty : newarray.typeOf atype = ty) (t0 : Nat) {cB : ClassId} (ht : (TYS G)[t0]? = some (cB, ty)) (hP : va_P (gD G) vwCl ws H) (hD : va_D A ws) (hS : va_S A s.heap H locs) (hA : ∀ q, s.heap.size ≤ q → A q)
    {n : Int32} {N' : Nat} {a0 : vp_A} (ha : ∀ cA : ClassId, vp_cell cA a0 = arrV cA N' (fun _ => defaultValue ty)) (hn : ¬ n < 0) (hN : n.toNatClampNeg = N') (hbytes : N' * componentBytes ty ≤ 536870912) (hcells : cells + 1 ≤ R.cells) (hslots : slots + N' ≤ R.slots) (hdg : decode cc pc = .ok (.newarray atype, 2))
    (kk : ∀ (q : Nat) (H1 : Heap), va_P (gD G) vwCl (ws ++ [(q, .inl (cB, a0))]) H1 → va_D A (ws ++ [(q, .inl (cB, a0))]) → va_S A s.heap H1 locs →
      W p l e R s m args below meth c H1 locs (cells + 1) (slots + N') Q (F0 m (pc + 2) ls (.ref q :: rest))) : W p l e R s m args below meth c H locs cells slots Q (F0 m pc ls (.int n :: rest)) := by
  refine va_newa hexec hb harr hty hE.K hP hD hS hA ha hn hN hbytes hcells hslots hdg (fun q cA H1 hK1 hP1 hD1 hS1 => ?_)
  have e1 := (hE.K.2 t0 _ ht).2
  have e2 := (hK1.2 (TYS G).length (cA, ty) (by rw [List.getElem?_append_right (Nat.le_refl _), Nat.sub_self]; rfl)).2
  have e3 : cA = cB := by
    subst hty
    cases atype <;> exact Option.some.inj (e2.symm.trans e1)
  subst e3
  exact kk q H1 hP1 hD1 hS1
end MAKES
