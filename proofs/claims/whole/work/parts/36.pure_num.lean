theorem ifp {c : Prop} {inst : Decidable c} {α : Type} {A B X : α} (h : c) (e : A = X) : @ite α c inst A B = X := by rw [if_pos h]; exact e
theorem ifn {c : Prop} {inst : Decidable c} {α : Type} {A B X : α} (h : ¬ c) (e : B = X) : @ite α c inst A B = X := by rw [if_neg h]; exact e
theorem sifp {c : Prop} {inst : Decidable c} {α : Type} {X : Option α} {A B : α} (h : c) (e : X = some A) : X = some (@ite α c inst A B) := by rw [if_pos h]; exact e
theorem sifn {c : Prop} {inst : Decidable c} {α : Type} {X : Option α} {A B : α} (h : ¬ c) (e : X = some B) : X = some (@ite α c inst A B) := by rw [if_neg h]; exact e
theorem ifc {c d : Prop} {ic : Decidable c} {id : Decidable d} {α : Type} {A B : α} (h : c ↔ d) : @ite α c ic A B = @ite α d id A B := by
  by_cases hc : c
  · rw [if_pos hc, if_pos (h.mp hc)]
  · rw [if_neg hc, if_neg (fun z => hc (h.mpr z))]
theorem bnd {α β : Type} {o : Option α} {k : α → Option β} {u : α} {X : Option β} (h : o = some u) (e : k u = X) : o.bind k = X := by rw [h]; exact e
theorem qlt {a : Nat} {y : Int32} (b : Nat) (h : a < b) (hy : y = nI b := by rfl) (hb : b < 2 ^ 31 := by omega) : nI a < y := by subst hy; exact nI_lt h hb
theorem qnlt {a : Nat} {y : Int32} (b : Nat) (h : b ≤ a) (hy : y = nI b := by rfl) (ha : a < 2 ^ 31 := by omega) : ¬ nI a < y := by subst hy; exact nI_nlt h ha
theorem qle {a : Nat} {y : Int32} (b : Nat) (h : a ≤ b) (hy : y = nI b := by rfl) (hb : b < 2 ^ 31 := by omega) : nI a ≤ y := by subst hy; exact nI_le h hb
theorem qnle {a : Nat} {y : Int32} (b : Nat) (h : b < a) (hy : y = nI b := by rfl) (ha : a < 2 ^ 31 := by omega) : ¬ nI a ≤ y := by subst hy; exact nI_ge h ha
theorem rlt {a : Nat} {y : Int32} (b : Nat) (h : b < a) (hy : y = nI b := by rfl) (ha : a < 2 ^ 31 := by omega) : y < nI a := by subst hy; exact nI_lt h ha
theorem rnlt {a : Nat} {y : Int32} (b : Nat) (h : a ≤ b) (hy : y = nI b := by rfl) (hb : b < 2 ^ 31 := by omega) : ¬ y < nI a := by subst hy; exact nI_nlt h hb
theorem rle {a : Nat} {y : Int32} (b : Nat) (h : b ≤ a) (hy : y = nI b := by rfl) (ha : a < 2 ^ 31 := by omega) : y ≤ nI a := by subst hy; exact nI_le h ha
theorem rnle {a : Nat} {y : Int32} (b : Nat) (h : a < b) (hy : y = nI b := by rfl) (hb : b < 2 ^ 31 := by omega) : ¬ y ≤ nI a := by subst hy; exact nI_ge h hb
theorem qeq {a : Nat} {y : Int32} (b : Nat) (h : a = b) (hy : y = nI b := by rfl) : nI a = y := by subst hy; subst h; rfl
theorem qne {a : Nat} {y : Int32} (b : Nat) (h : a ≠ b) (hy : y = nI b := by rfl) (ha : a < 2 ^ 31 := by omega) (hb : b < 2 ^ 31 := by omega) : ¬ nI a = y := by subst hy; rw [nI_eq ha hb]; exact h
theorem inB_n {i n : Nat} (h : i < n) (hn : n < 2 ^ 31 := by omega) : inB (nI i) n = true := inB_nI h hn
def iI (z : Int) : Int32 := Int32.ofInt z
theorem iI_toInt {z : Int} (h1 : -2147483648 ≤ z) (h2 : z < 2147483648) : (iI z).toInt = z := Int32.toInt_ofInt_of_le h1 h2
theorem iI_nat (n : Nat) : iI (n : Int) = nI n := rfl
theorem iI_add (a b : Int) : iI a + iI b = iI (a + b) := (Int32.ofInt_add a b).symm
theorem iI_sub (a b : Int) : iI a - iI b = iI (a - b) := (Int32.ofInt_sub a b).symm
theorem iI_neg (a : Int) : - iI a = iI (- a) := (Int32.ofInt_neg a).symm
theorem iI_le {a b : Int} (h1 : -2147483648 ≤ a) (h2 : a < 2147483648) (h3 : -2147483648 ≤ b) (h4 : b < 2147483648) : iI a ≤ iI b ↔ a ≤ b := by
  rw [Int32.le_iff_toInt_le, iI_toInt h1 h2, iI_toInt h3 h4]
theorem iI_lt {a b : Int} (h1 : -2147483648 ≤ a) (h2 : a < 2147483648) (h3 : -2147483648 ≤ b) (h4 : b < 2147483648) : iI a < iI b ↔ a < b := by
  rw [Int32.lt_iff_toInt_lt, iI_toInt h1 h2, iI_toInt h3 h4]
theorem iI_eq {a b : Int} (h1 : -2147483648 ≤ a) (h2 : a < 2147483648) (h3 : -2147483648 ≤ b) (h4 : b < 2147483648) : iI a = iI b ↔ a = b := by
  rw [← Int32.toInt_inj, iI_toInt h1 h2, iI_toInt h3 h4]
theorem ilt {x y : Int32} (a b : Int) (h : a < b) (hx : x = iI a := by rfl) (hy : y = iI b := by rfl) (h1 : -2147483648 ≤ a := by omega) (h4 : b < 2147483648 := by omega) : x < y := by
  subst hx hy; exact (iI_lt h1 (by omega) (by omega) h4).mpr h
theorem inlt {x y : Int32} (a b : Int) (h : b ≤ a) (hx : x = iI a := by rfl) (hy : y = iI b := by rfl) (h1 : -2147483648 ≤ b := by omega) (h4 : a < 2147483648 := by omega) : ¬ x < y := by
  subst hx hy; rw [iI_lt (by omega) h4 h1 (by omega)]; omega
theorem ile {x y : Int32} (a b : Int) (h : a ≤ b) (hx : x = iI a := by rfl) (hy : y = iI b := by rfl) (h1 : -2147483648 ≤ a := by omega) (h4 : b < 2147483648 := by omega) : x ≤ y := by
  subst hx hy; exact (iI_le h1 (by omega) (by omega) h4).mpr h
theorem inle {x y : Int32} (a b : Int) (h : b < a) (hx : x = iI a := by rfl) (hy : y = iI b := by rfl) (h1 : -2147483648 ≤ b := by omega) (h4 : a < 2147483648 := by omega) : ¬ x ≤ y := by
  subst hx hy; rw [iI_le (by omega) h4 h1 (by omega)]; omega
theorem ieq {x y : Int32} (a b : Int) (h : a = b) (hx : x = iI a := by rfl) (hy : y = iI b := by rfl) : x = y := by
  subst hx hy; subst h; rfl
theorem ine {x y : Int32} (a b : Int) (h : a ≠ b) (hx : x = iI a := by rfl) (hy : y = iI b := by rfl) (h1 : -2147483648 ≤ a := by omega) (h2 : a < 2147483648 := by omega) (h3 : -2147483648 ≤ b := by omega) (h4 : b < 2147483648 := by omega) : ¬ x = y := by
  subst hx hy; rw [iI_eq h1 h2 h3 h4]; exact h
