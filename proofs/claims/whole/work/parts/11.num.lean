/-! ===== numbers ===== -/
theorem i_bm {x : Int} (h1 : -2147483648 ≤ x) (h2 : x < 2147483648) : x.bmod (2 ^ 32) = x := Int.bmod_eq_of_le (by omega) (by omega)
theorem j_bm {x : Int} (h1 : -9223372036854775808 ≤ x) (h2 : x < 9223372036854775808) : x.bmod (2 ^ 64) = x := Int.bmod_eq_of_le (by omega) (by omega)
theorem i_add {a b : Int32} (h1 : -2147483648 ≤ a.toInt + b.toInt) (h2 : a.toInt + b.toInt < 2147483648) : (a + b).toInt = a.toInt + b.toInt := by rw [Int32.toInt_add, i_bm h1 h2]
theorem i_sub {a b : Int32} (h1 : -2147483648 ≤ a.toInt - b.toInt) (h2 : a.toInt - b.toInt < 2147483648) : (a - b).toInt = a.toInt - b.toInt := by rw [Int32.toInt_sub, i_bm h1 h2]
theorem i_mul {a b : Int32} (h1 : -2147483648 ≤ a.toInt * b.toInt) (h2 : a.toInt * b.toInt < 2147483648) : (a * b).toInt = a.toInt * b.toInt := by rw [Int32.toInt_mul, i_bm h1 h2]
theorem i_neg {a : Int32} (h1 : -2147483648 < a.toInt) : (-a).toInt = -a.toInt := by
  have := a.toInt_lt
  rw [Int32.toInt_neg, i_bm (by omega) (by omega)]
theorem i_div {a b : Int32} (h : b ≠ -1) : (a / b).toInt = a.toInt.tdiv b.toInt := Int32.toInt_div_of_ne_right a b h
theorem j_add {a b : Int64} (h1 : -9223372036854775808 ≤ a.toInt + b.toInt) (h2 : a.toInt + b.toInt < 9223372036854775808) : (a + b).toInt = a.toInt + b.toInt := by rw [Int64.toInt_add, j_bm h1 h2]
theorem j_sub {a b : Int64} (h1 : -9223372036854775808 ≤ a.toInt - b.toInt) (h2 : a.toInt - b.toInt < 9223372036854775808) : (a - b).toInt = a.toInt - b.toInt := by rw [Int64.toInt_sub, j_bm h1 h2]
theorem j_mul {a b : Int64} (h1 : -9223372036854775808 ≤ a.toInt * b.toInt) (h2 : a.toInt * b.toInt < 9223372036854775808) : (a * b).toInt = a.toInt * b.toInt := by rw [Int64.toInt_mul, j_bm h1 h2]
theorem j_div {a b : Int64} (h : b ≠ -1) : (a / b).toInt = a.toInt.tdiv b.toInt := Int64.toInt_div_of_ne_right a b h
theorem nn_int {n : Nat} (h : n < 2147483648) : (Int32.ofNat n).toInt = n := Int32.toInt_ofNat_of_lt h
theorem nn_ix {n : Nat} (h : n < 2147483648) : ix (Int32.ofNat n) = n := Int32.toNatClampNeg_ofNat_of_lt h
theorem nn_add (a b : Nat) : Int32.ofNat a + Int32.ofNat b = Int32.ofNat (a + b) := (Int32.ofNat_add a b).symm
theorem nn_le {a b : Nat} (ha : a < 2147483648) (hb : b < 2147483648) : (Int32.ofNat a ≤ Int32.ofNat b) ↔ a ≤ b := by
  rw [Int32.le_iff_toInt_le, nn_int ha, nn_int hb]; omega
theorem nn_lt {a b : Nat} (ha : a < 2147483648) (hb : b < 2147483648) : (Int32.ofNat a < Int32.ofNat b) ↔ a < b := by
  rw [Int32.lt_iff_toInt_lt, nn_int ha, nn_int hb]; omega
theorem nn_eq {a b : Nat} (ha : a < 2147483648) (hb : b < 2147483648) : (Int32.ofNat a = Int32.ofNat b) ↔ a = b := by
  rw [← Int32.toInt_inj, nn_int ha, nn_int hb]; omega
theorem ix_def (i : Int32) : ix i = i.toInt.toNat := rfl
theorem inb_iff {i : Int32} {n : Nat} : inb i n = true ↔ 0 ≤ i.toInt ∧ i.toInt < n := by
  unfold inb
  rw [Bool.and_eq_true, Bool.not_eq_true', decide_eq_false_iff_not, decide_eq_true_eq, Int32.lt_iff_toInt_lt, show i.toNatClampNeg = i.toInt.toNat from rfl]
  have : (0 : Int32).toInt = 0 := rfl
  omega
theorem inb_nn {a n : Nat} (h : a < n) (hn : n < 2147483648) : inb (Int32.ofNat a) n = true := by
  rw [inb_iff, nn_int (by omega)]; omega
/-- a number that can't be below 0, by its own name -/
theorem nn_of {i : Int32} (h : 0 ≤ i.toInt) : Int32.ofNat i.toInt.toNat = i := by
  have := i.toInt_lt
  apply Int32.toInt_inj.mp
  rw [nn_int (by omega)]; omega
theorem nn_exi {i : Int32} (h : 0 ≤ i.toInt) : ∃ n : Nat, n < 2147483648 ∧ i = Int32.ofNat n := ⟨i.toInt.toNat, by have := i.toInt_lt; omega, (nn_of h).symm⟩
/-! ===== memory ===== -/
theorem mI_sI (M : Mem) (a k : Nat) (v : Int32) (b j : Nat) : mI (sI M a k v) b j = if b = a ∧ j = k then v else mI M b j := by
  show up2 M.1 a k v b j = _
  by_cases h : b = a
  · subst h
    by_cases h2 : j = k
    · subst h2
      rw [if_pos ⟨rfl, rfl⟩]
      show (if b = b then va_up (M.1 b) j v else M.1 b) j = v
      rw [if_pos rfl, va_up_self]
    · rw [if_neg (fun q => h2 q.2)]
      show (if b = b then va_up (M.1 b) k v else M.1 b) j = _
      rw [if_pos rfl, va_up_ne _ _ h2]; rfl
  · rw [if_neg (fun q => h q.1)]
    show (if b = a then va_up (M.1 b) k v else M.1 b) j = _
    rw [if_neg h]; rfl
theorem mJ_sJ (M : Mem) (a k : Nat) (v : Int64) (b j : Nat) : mJ (sJ M a k v) b j = if b = a ∧ j = k then v else mJ M b j := by
  show up2 M.2.1 a k v b j = _
  by_cases h : b = a
  · subst h
    by_cases h2 : j = k
    · subst h2
      rw [if_pos ⟨rfl, rfl⟩]
      show (if b = b then va_up (M.2.1 b) j v else M.2.1 b) j = v
      rw [if_pos rfl, va_up_self]
    · rw [if_neg (fun q => h2 q.2)]
      show (if b = b then va_up (M.2.1 b) k v else M.2.1 b) j = _
      rw [if_pos rfl, va_up_ne _ _ h2]; rfl
  · rw [if_neg (fun q => h q.1)]
    show (if b = a then va_up (M.2.1 b) k v else M.2.1 b) j = _
    rw [if_neg h]; rfl
theorem mR_sR (M : Mem) (a k : Nat) (v : Option Nat) (b j : Nat) : mR (sR M a k v) b j = if b = a ∧ j = k then v else mR M b j := by
  show up2 M.2.2.1 a k v b j = _
  by_cases h : b = a
  · subst h
    by_cases h2 : j = k
    · subst h2
      rw [if_pos ⟨rfl, rfl⟩]
      show (if b = b then va_up (M.2.2.1 b) j v else M.2.2.1 b) j = v
      rw [if_pos rfl, va_up_self]
    · rw [if_neg (fun q => h2 q.2)]
      show (if b = b then va_up (M.2.2.1 b) k v else M.2.2.1 b) j = _
      rw [if_pos rfl, va_up_ne _ _ h2]; rfl
  · rw [if_neg (fun q => h q.1)]
    show (if b = a then va_up (M.2.2.1 b) k v else M.2.2.1 b) j = _
    rw [if_neg h]; rfl
theorem mI_aI (M : Mem) (a : Nat) (g : Nat → Int32) (b j : Nat) : mI (aI M a g) b j = if b = a then g j else mI M b j := by
  show va_up M.1 a g b j = _
  by_cases h : b = a
  · subst h; rw [va_up_self, if_pos rfl]
  · rw [va_up_ne _ _ h, if_neg h]; rfl
theorem mJ_aJ (M : Mem) (a : Nat) (g : Nat → Int64) (b j : Nat) : mJ (aJ M a g) b j = if b = a then g j else mJ M b j := by
  show va_up M.2.1 a g b j = _
  by_cases h : b = a
  · subst h; rw [va_up_self, if_pos rfl]
  · rw [va_up_ne _ _ h, if_neg h]; rfl
theorem mJ_sI (M : Mem) (a k : Nat) (v : Int32) (b j : Nat) : mJ (sI M a k v) b j = mJ M b j := rfl
theorem mR_sI (M : Mem) (a k : Nat) (v : Int32) (b j : Nat) : mR (sI M a k v) b j = mR M b j := rfl
theorem mN_sI (M : Mem) (a k : Nat) (v : Int32) (b : Nat) : mN (sI M a k v) b = mN M b := rfl
theorem mI_sJ (M : Mem) (a k : Nat) (v : Int64) (b j : Nat) : mI (sJ M a k v) b j = mI M b j := rfl
theorem mR_sJ (M : Mem) (a k : Nat) (v : Int64) (b j : Nat) : mR (sJ M a k v) b j = mR M b j := rfl
theorem mN_sJ (M : Mem) (a k : Nat) (v : Int64) (b : Nat) : mN (sJ M a k v) b = mN M b := rfl
theorem mI_sR (M : Mem) (a k : Nat) (v : Option Nat) (b j : Nat) : mI (sR M a k v) b j = mI M b j := rfl
theorem mJ_sR (M : Mem) (a k : Nat) (v : Option Nat) (b j : Nat) : mJ (sR M a k v) b j = mJ M b j := rfl
theorem mN_sR (M : Mem) (a k : Nat) (v : Option Nat) (b : Nat) : mN (sR M a k v) b = mN M b := rfl
theorem mJ_aI (M : Mem) (a : Nat) (g : Nat → Int32) (b j : Nat) : mJ (aI M a g) b j = mJ M b j := rfl
theorem mR_aI (M : Mem) (a : Nat) (g : Nat → Int32) (b j : Nat) : mR (aI M a g) b j = mR M b j := rfl
theorem mN_aI (M : Mem) (a : Nat) (g : Nat → Int32) (b : Nat) : mN (aI M a g) b = mN M b := rfl
theorem mI_aJ (M : Mem) (a : Nat) (g : Nat → Int64) (b j : Nat) : mI (aJ M a g) b j = mI M b j := rfl
theorem mR_aJ (M : Mem) (a : Nat) (g : Nat → Int64) (b j : Nat) : mR (aJ M a g) b j = mR M b j := rfl
theorem mN_aJ (M : Mem) (a : Nat) (g : Nat → Int64) (b : Nat) : mN (aJ M a g) b = mN M b := rfl
