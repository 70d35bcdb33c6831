theorem sar_mask {V s k : Nat} {S M : Int64} (hS : (S.toBitVec.smod 64).toNat = s) (hM : M.toBitVec.toNat = 2 ^ k - 1) (h : s + k ≤ 64) (hV : V < 2 ^ 64) : (lN V >>> S) &&& M = lN (V / 2 ^ s % 2 ^ k) := by
  apply wb_inj
  rw [Int64.toBitVec_and, wb_tb]
  apply BitVec.eq_of_toNat_eq
  have e : (lN V >>> S).toBitVec = (lN V).toBitVec.sshiftRight s := by
    rw [← hS]
    rfl
  have hle : V / 2 ^ s % 2 ^ k ≤ V / 2 ^ s := Nat.mod_le _ _
  have hle2 : V / 2 ^ s ≤ V := Nat.div_le_self _ _
  rw [BitVec.toNat_and, hM, Nat.and_two_pow_sub_one_eq_mod, BitVec.toNat_ofNat, Nat.mod_eq_of_lt (show V / 2 ^ s % 2 ^ k < 2 ^ 64 by omega), e]
  apply Nat.eq_of_testBit_eq
  intro i
  rw [Nat.testBit_mod_two_pow, Nat.testBit_mod_two_pow]
  by_cases hi : i < k
  · have h1 : s + i < 64 := by omega
    have h2 : ¬ 64 ≤ i := by omega
    rw [BitVec.testBit_toNat, BitVec.getLsbD_sshiftRight, if_pos h1, wb_tb, BitVec.getLsbD_ofNat, Nat.testBit_div_two_pow]
    simp [hi, h1, h2, Nat.add_comm]
  · simp [hi]
theorem n_or {k a b : Nat} (ha : a < 2 ^ k) (h : b * 2 ^ k + a < 2 ^ 32) : nI (b * 2 ^ k) ||| nI a = nI (b * 2 ^ k + a) := by
  apply Int32.toBitVec_inj.mp
  apply BitVec.eq_of_toNat_eq
  have h1 : b * 2 ^ k ||| a = b * 2 ^ k + a := by rw [← Nat.shiftLeft_eq, Nat.shiftLeft_add_eq_or_of_lt ha]
  rw [Int32.toBitVec_or, BitVec.toNat_or, pk_tn (by omega), pk_tn (by omega), pk_tn h, h1]
theorem lN_eq64 {a b : Nat} (ha : a < 2 ^ 64) (hb : b < 2 ^ 64) : lN a = lN b ↔ a = b := by
  constructor
  · intro h
    have := congrArg (fun x : Int64 => x.toBitVec.toNat) h
    rw [wb_tn ha, wb_tn hb] at this
    exact this
  · intro h
    rw [h]
theorem lN_neg {n : Nat} (h : n < 2 ^ 64) : lN n < 0 ↔ 2 ^ 63 ≤ n := by
  rw [Int64.lt_iff_toInt_lt, show (0 : Int64).toInt = 0 from by decide]
  have e : (lN n).toInt = if 2 * n < 2 ^ 64 then (n : Int) else (n : Int) - (2 ^ 64 : Nat) := by
    have := BitVec.toInt_eq_toNat_cond (lN n).toBitVec
    rw [wb_tn h] at this
    exact this
  rw [e]
  by_cases h2 : 2 * n < 2 ^ 64
  · rw [if_pos h2]
    omega
  · rw [if_neg h2]
    omega
theorem lN_sub64 {a b : Nat} (ha : a < 2 ^ 64) (hb : b < 2 ^ 64) : lN a - lN b = lN ((2 ^ 64 - b + a) % 2 ^ 64) := by
  apply wb_inj
  apply BitVec.eq_of_toNat_eq
  rw [Int64.toBitVec_sub, BitVec.toNat_sub, wb_tn ha, wb_tn hb, wb_tn (Nat.mod_lt _ (by decide))]
