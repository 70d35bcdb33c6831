theorem pw_pos {b : Nat} (hb : 0 < b) : ∀ n : Nat, 0 < b ^ n
  | 0 => by rw [Nat.pow_zero]; exact Nat.zero_lt_one
  | n + 1 => by rw [Nat.pow_succ]; exact Nat.mul_pos (pw_pos hb n) hb
theorem pw_le {b m n : Nat} (hb : 0 < b) (h : m ≤ n) : b ^ m ≤ b ^ n := Nat.pow_le_pow_right hb h
theorem pw_split {b i n : Nat} (h : i ≤ n) : b ^ n = b ^ i * b ^ (n - i) := by
  rw [← Nat.pow_add]
  congr 1
  omega
def vl (b : Nat) (g : Nat → Nat) : Nat → Nat
  | 0 => 0
  | n + 1 => vl b g n + g n * b ^ n
theorem vl_congr {b : Nat} {g h : Nat → Nat} : ∀ {n : Nat}, (∀ i, i < n → g i = h i) → vl b g n = vl b h n
  | 0, _ => rfl
  | n + 1, e => by
    show vl b g n + g n * b ^ n = vl b h n + h n * b ^ n
    rw [vl_congr (fun i hi => e i (by omega)), e n (by omega)]
theorem vl_lt {b : Nat} {g : Nat → Nat} (hb : 0 < b) : ∀ {n : Nat}, (∀ i, i < n → g i < b) → vl b g n < b ^ n
  | 0, _ => pw_pos hb 0
  | n + 1, e => by
    show vl b g n + g n * b ^ n < b ^ (n + 1)
    have h1 := vl_lt hb (n := n) (fun i hi => e i (by omega))
    have h2 : (g n + 1) * b ^ n ≤ b * b ^ n := Nat.mul_le_mul_right _ (e n (by omega))
    rw [Nat.succ_mul] at h2
    rw [Nat.pow_succ, Nat.mul_comm (b ^ n) b]
    omega
theorem vl_dig {b : Nat} {g : Nat → Nat} (hb : 0 < b) {i : Nat} : ∀ {n : Nat}, (∀ i, i < n → g i < b) → i < n → vl b g n / b ^ i % b = g i
  | 0, _, h => absurd h (Nat.not_lt_zero i)
  | n + 1, e, h => by
    show (vl b g n + g n * b ^ n) / b ^ i % b = g i
    have hp := pw_pos hb i
    by_cases hi : i = n
    · subst hi
      rw [Nat.add_mul_div_right _ _ hp, Nat.div_eq_of_lt (vl_lt hb (fun j hj => e j (by omega))), Nat.zero_add, Nat.mod_eq_of_lt (e i h)]
    · have e1 : g n * b ^ n = (b * (g n * b ^ (n - i - 1))) * b ^ i := by
        rw [pw_split (b := b) (i := i) (n := n) (by omega), show n - i = (n - i - 1) + 1 by omega, Nat.pow_succ, Nat.add_sub_cancel]
        simp only [Nat.mul_comm, Nat.mul_left_comm, Nat.mul_assoc]
      rw [e1, Nat.add_mul_div_right _ _ hp, Nat.add_mul_mod_self_left]
      exact vl_dig hb (fun j hj => e j (by omega)) (by omega)
theorem vl_upd {b : Nat} {g g' : Nat → Nat} {i : Nat} : ∀ {n : Nat}, i < n → (∀ j, j ≠ i → g' j = g j) → vl b g' n + g i * b ^ i = vl b g n + g' i * b ^ i
  | 0, h, _ => absurd h (Nat.not_lt_zero i)
  | n + 1, h, e => by
    show vl b g' n + g' n * b ^ n + g i * b ^ i = vl b g n + g n * b ^ n + g' i * b ^ i
    by_cases hi : i = n
    · subst hi
      rw [vl_congr (g := g') (h := g) (fun j hj => e j (by omega))]
      omega
    · have := vl_upd (b := b) (g := g) (g' := g') (i := i) (n := n) (by omega) e
      rw [e n (Ne.symm hi)]
      omega
theorem vl_app {b : Nat} {g : Nat → Nat} {n : Nat} : ∀ (m : Nat), vl b g (n + m) = vl b g n + b ^ n * vl b (fun j => g (n + j)) m
  | 0 => by show vl b g n = vl b g n + b ^ n * 0; rw [Nat.mul_zero, Nat.add_zero]
  | m + 1 => by
    show vl b g (n + m) + g (n + m) * b ^ (n + m) = vl b g n + b ^ n * (vl b (fun j => g (n + j)) m + g (n + m) * b ^ m)
    rw [vl_app m, Nat.mul_add, Nat.pow_add]
    have : g (n + m) * (b ^ n * b ^ m) = b ^ n * (g (n + m) * b ^ m) := by simp only [Nat.mul_left_comm]
    omega
def nd (b N : Nat) : Nat := if h : N = 0 ∨ b < 2 then 0 else nd b (N / b) + 1
termination_by N
decreasing_by exact Nat.div_lt_self (by omega) (by omega)
theorem nd_0 (b : Nat) : nd b 0 = 0 := by
  rw [nd]
  exact dif_pos (Or.inl rfl)
theorem nd_s {b N : Nat} (hb : 2 ≤ b) (h : N ≠ 0) : nd b N = nd b (N / b) + 1 := by
  rw [nd]
  exact dif_neg (by omega)
theorem nd_lt {b : Nat} (hb : 2 ≤ b) : ∀ N : Nat, N < b ^ nd b N := by
  intro N
  induction N using Nat.strongRecOn with
  | ind N ih =>
    by_cases h : N = 0
    · subst h
      rw [nd_0]
      exact pw_pos (by omega) 0
    · rw [nd_s hb h, Nat.pow_succ]
      have h1 := ih (N / b) (Nat.div_lt_self (by omega) (by omega))
      exact (Nat.div_lt_iff_lt_mul (by omega)).mp h1
theorem nd_ge {b : Nat} (hb : 2 ≤ b) : ∀ N : Nat, N ≠ 0 → b ^ (nd b N - 1) ≤ N := by
  intro N
  induction N using Nat.strongRecOn with
  | ind N ih =>
    intro h
    rw [nd_s hb h, Nat.add_sub_cancel]
    by_cases h0 : N / b = 0
    · rw [h0, nd_0, Nat.pow_zero]
      omega
    · have h1 := ih (N / b) (Nat.div_lt_self (by omega) (by omega)) h0
      have h2 : nd b (N / b) = (nd b (N / b) - 1) + 1 := by rw [nd_s hb h0]; omega
      rw [h2, Nat.pow_succ]
      exact (Nat.le_div_iff_mul_le (by omega)).mp h1
theorem nd_le {b N n : Nat} (hb : 2 ≤ b) (h : N < b ^ n) : nd b N ≤ n := by
  by_cases h0 : N = 0
  · subst h0
    rw [nd_0]
    exact Nat.zero_le _
  · have h1 := nd_ge hb N h0
    by_cases h2 : nd b N ≤ n
    · exact h2
    · exact absurd (pw_le (b := b) (by omega) (show n ≤ nd b N - 1 by omega)) (by omega)
theorem nd_gt {b N m : Nat} (hb : 2 ≤ b) (h : b ^ m ≤ N) : m < nd b N := by
  by_cases h2 : m < nd b N
  · exact h2
  · have := pw_le (b := b) (by omega) (show nd b N ≤ m by omega)
    have := nd_lt hb N
    omega
theorem nd_eq {b N m : Nat} (hb : 2 ≤ b) (h1 : b ^ m ≤ N) (h2 : N < b ^ (m + 1)) : nd b N = m + 1 := by
  have := nd_le hb h2
  have := nd_gt hb h1
  omega
theorem nd_pos {b N : Nat} (hb : 2 ≤ b) (h : N ≠ 0) : 0 < nd b N := by rw [nd_s hb h]; omega
theorem nd_z {b N : Nat} (hb : 2 ≤ b) (h : nd b N = 0) : N = 0 := by
  by_cases h0 : N = 0
  · exact h0
  · have := nd_pos hb h0
    omega
theorem nd_div0 {b N n : Nat} (hb : 2 ≤ b) (h : nd b N ≤ n) : N / b ^ n = 0 := Nat.div_eq_of_lt (Nat.lt_of_lt_of_le (nd_lt hb N) (pw_le (by omega) h))
theorem nd_div1 {b N n : Nat} (hb : 2 ≤ b) (h : n < nd b N) : N / b ^ n ≠ 0 := by
  have h0 : N ≠ 0 := fun e => by rw [e, nd_0] at h; omega
  have h1 := nd_ge hb N h0
  have h2 := pw_le (b := b) (by omega) (show n ≤ nd b N - 1 by omega)
  have h3 : 0 < N / b ^ n := Nat.div_pos (by omega) (pw_pos (by omega) n)
  omega
def rnd (N : Nat) : Nat → Nat
  | 0 => N
  | c + 1 => (N / 10 ^ c + 5) / 10 * 10 ^ (c + 1)
theorem rnd_big {N c : Nat} (h : nd 10 N < c) : rnd N c = 0 := by
  cases c with
  | zero => omega
  | succ c =>
    show (N / 10 ^ c + 5) / 10 * 10 ^ (c + 1) = 0
    rw [nd_div0 (by omega) (by omega)]
    rw [show (0 + 5) / 10 = 0 from rfl, Nat.zero_mul]
def dgh (N k : Nat) : Nat := if k < nd 10 N then N / 10 ^ (nd 10 N - 1 - k) % 10 else 0
