def acs (G : Gt) (ar : Nat → AR) : Nat → va_W
  | 0 => []
  | n + 1 => acs G ar n ++ acell G (ar n)
def rsO (G : Gt) (ar : Nat → AR) (J : Nat) : Nat → va_W
  | 0 => []
  | n + 1 => if J = n then acs G ar n else rsO G ar J n ++ acell G (ar n)
theorem acs_congr {G : Gt} {ar ar' : Nat → AR} : ∀ (n : Nat), (∀ j, j < n → ar j = ar' j) → acs G ar n = acs G ar' n
  | 0, _ => rfl
  | n + 1, h => by
    show acs G ar n ++ acell G (ar n) = acs G ar' n ++ acell G (ar' n)
    rw [acs_congr n (fun j hj => h j (Nat.lt_succ_of_lt hj)), h n (Nat.lt_succ_self n)]
theorem acs_up {G : Gt} (ar : Nat → AR) (J : Nat) (a : AR) : ∀ (n : Nat), J < n → (acs G (va_up ar J a) n).Perm (acell G a ++ rsO G ar J n)
  | 0, h => absurd h (Nat.not_lt_zero J)
  | n + 1, h => by
    show (acs G (va_up ar J a) n ++ acell G (va_up ar J a n)).Perm (acell G a ++ (if J = n then acs G ar n else rsO G ar J n ++ acell G (ar n)))
    by_cases hJ : J = n
    · subst hJ
      rw [if_pos rfl, va_up_self, acs_congr (ar' := ar) J (fun j hj => va_up_ne _ _ (Nat.ne_of_lt hj))]
      exact List.perm_append_comm
    · rw [if_neg hJ, va_up_ne _ _ (Ne.symm hJ), ← List.append_assoc]
      exact List.Perm.append_right _ (acs_up ar J a n (by omega))
theorem va_up_id {α : Type} (f : Nat → α) (k : Nat) : va_up f k (f k) = f := by
  funext j
  by_cases h : j = k
  · subst h
    exact va_up_self _ _ _
  · exact va_up_ne _ _ h
theorem acs_at {G : Gt} (ar : Nat → AR) (J : Nat) {n : Nat} (h : J < n) : (acs G ar n).Perm (acell G (ar J) ++ rsO G ar J n) := by
  have := acs_up (G := G) ar J (ar J) n h
  rw [va_up_id] at this
  exact this
theorem pw_in {X a b r : va_W} (h : b.Perm (a ++ r)) : (X ++ b).Perm ((X ++ a) ++ r) := by
  rw [List.append_assoc]
  exact List.Perm.append_left _ h
theorem pw_in2 {X a l b r : va_W} (h : b.Perm ((a ++ l) ++ r)) : (X ++ b).Perm ((X ++ a) ++ (l ++ r)) := by
  rw [List.append_assoc]
  refine List.Perm.append_left _ ?_
  rw [← List.append_assoc]
  exact h
theorem pw_out {X a b r : va_W} (h : b.Perm (a ++ r)) : ((X ++ a) ++ r).Perm (X ++ b) := (pw_in h).symm
theorem pw_outG {X a l b r : va_W} (h : b.Perm (a ++ r)) : ((X ++ a) ++ (l ++ r)).Perm ((X ++ b) ++ l) := by
  refine List.Perm.trans ?_ (List.Perm.append_right l (pw_in h).symm)
  rw [List.append_assoc (X ++ a) r l]
  exact List.Perm.append_left _ List.perm_append_comm
theorem PC_afterG {G : Gt} {av : List Value} {sz : Nat} {ws wc wr w1 ws1 gb : va_W} (hp : ws.Perm (wc ++ wr)) (hp1 : (w1 ++ wr).Perm (ws1 ++ gb)) {a : Array Value} {s t : State} (h : PC G av sz ws a s) (hP1 : va_P (gD G) vwCl w1 t.heap) (hD1 : va_D (va_A wc sz) w1) (hf : va_F (va_A wc sz) s t) : (va_P (gD G) vwCl ws1 t.heap ∧ va_D (va_A ws sz) ws1) ∧ va_F (va_A ws sz) s t := by
  obtain ⟨⟨h1, h2⟩, h3⟩ := PC_after hp hp1 h hP1 hD1 hf
  exact ⟨⟨h1.left, h2.left⟩, h3⟩
theorem frameGI {l : Launch} {y : MethodName} {wds : List Cond} {rm : Room} {G : Gt} {av : List Value} {sz mc ms : Nat} {ws wc wr w1 ws1 gb : va_W} {v : Int32} (h : Met l y wds rm (PC G av sz wc) (QI G v (va_A wc sz) w1) mc ms (va_A wc sz)) (hp : ws.Perm (wc ++ wr)) (hp1 : (w1 ++ wr).Perm (ws1 ++ gb)) : Met l y wds rm (PC G av sz ws) (QI G v (va_A ws sz) ws1) mc ms (va_A ws sz) := by
  have hF : ∀ q, va_A wc sz q → va_A ws sz q := va_A_perm hp
  refine MetFree.mono h (fun a s hP => PC_sub hp hP) (fun _ _ _ _ _ h => h) (fun a s o t hP hq => ?_)
  obtain ⟨hq, L, hL1, hL2⟩ := hq
  refine ⟨?_, L, hL1, fun q hq => hF _ (hL2 q hq)⟩
  obtain ⟨⟨r, u, ho, hu, hP1, hD1⟩, hf⟩ := hq
  obtain ⟨h2, h3⟩ := PC_afterG hp hp1 hP hP1 hD1 hf
  exact ⟨⟨r, u, ho, hu, h2⟩, h3⟩
theorem frameNi {l : Launch} {y : MethodName} {wds : List Cond} {rm : Room} {G : Gt} {av : List Value} {sz mc ms : Nat} {S : Type} {ws wc wr : va_W} {w1 ws1 gb : S → va_W} {v : Int32} (h : Met l y wds rm (PC G av sz wc) (QNi G v (va_A wc sz) w1) mc ms (va_A wc sz)) (hp : ws.Perm (wc ++ wr)) (hp1 : ∀ u, (w1 u ++ wr).Perm (ws1 u ++ gb u)) : Met l y wds rm (PC G av sz ws) (QNi G v (va_A ws sz) ws1) mc ms (va_A ws sz) := by
  have hF : ∀ q, va_A wc sz q → va_A ws sz q := va_A_perm hp
  refine MetFree.mono h (fun a s hP => PC_sub hp hP) (fun _ _ _ _ _ h => h) (fun a s o t hP hq => ?_)
  obtain ⟨hq, L, hL1, hL2⟩ := hq
  refine ⟨?_, L, hL1, fun q hq => hF _ (hL2 q hq)⟩
  obtain ⟨⟨r, u, ho, hu, hP1, hD1⟩, hf⟩ := hq
  obtain ⟨h2, h3⟩ := PC_afterG hp (hp1 u) hP hP1 hD1 hf
  exact ⟨⟨r, u, ho, hu, h2⟩, h3⟩
