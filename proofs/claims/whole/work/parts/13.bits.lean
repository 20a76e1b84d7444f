/-! ===== card sets as lists of their cards ===== -/
theorem pc8_bits : ∀ x, x < 256 → pc8 x = (List.range 8).countP (fun i => x.testBit i) := by decide +kernel
theorem pcn_bits : ∀ (n x : Nat), pcn n x = (List.range (8 * n)).countP (fun i => x.testBit i)
  | 0, _ => rfl
  | n + 1, x => by
    show pc8 (x % 256) + pcn n (x / 256) = _
    rw [pcn_bits n, show 8 * (n + 1) = 8 + 8 * n by omega, List.range_add, List.countP_append, List.countP_map, pc8_bits _ (Nat.mod_lt _ (by decide))]
    congr 1
    · apply List.countP_congr
      intro i hi
      have hi := List.mem_range.mp hi
      rw [show 256 = 2 ^ 8 from rfl, Nat.testBit_mod_two_pow]
      simp [hi]
    · apply List.countP_congr
      intro i _
      rw [show 256 = 2 ^ 8 from rfl, Nat.testBit_div_two_pow]
      simp [Function.comp, Nat.add_comm]
def bb (x : Int64) (c : Nat) : Bool := (tn x).testBit c
def bl (x : Int64) : List Nat := (List.range 64).filter (bb x)
theorem bitCount_bl (x : Int64) : FJ_Long_bitCount x = some (Int32.ofNat (bl x).length) := by
  rw [bitCount_eq, pcn_bits, List.countP_eq_length_filter]
  rfl
theorem bb_and (x y : Int64) (c : Nat) : bb (x &&& y) c = (bb x c && bb y c) := by unfold bb; rw [tn_and, Nat.testBit_and]
theorem bb_or (x y : Int64) (c : Nat) : bb (x ||| y) c = (bb x c || bb y c) := by unfold bb; rw [tn_or, Nat.testBit_or]
theorem bb_zero (c : Nat) : bb 0 c = false := by
  show Nat.testBit 0 c = false
  exact Nat.zero_testBit c
theorem bb_ge {x : Int64} {c : Nat} (h : 64 ≤ c) : bb x c = false := Nat.testBit_lt_two_pow (Nat.lt_of_lt_of_le (tn_lt x) (Nat.pow_le_pow_right (by decide) h))
theorem bb_ext {x y : Int64} (h : ∀ c, c < 64 → bb x c = bb y c) : x = y := by
  apply tn_inj
  apply Nat.eq_of_testBit_eq
  intro i
  by_cases hi : i < 64
  · exact h i hi
  · exact (bb_ge (by omega)).trans (bb_ge (by omega)).symm
theorem bb_not (x : Int64) (c : Nat) : bb (x ^^^ (-1)) c = (decide (c < 64) && !bb x c) := by
  unfold bb tn
  rw [Int64.toBitVec_xor, show (-1 : Int64).toBitVec = BitVec.allOnes 64 from rfl, BitVec.testBit_toNat, BitVec.testBit_toNat, BitVec.getLsbD_xor, BitVec.getLsbD_allOnes]
  by_cases h : c < 64
  · simp [h]
  · rw [BitVec.getLsbD_of_ge _ _ (by omega)]
    simp [h]
theorem sh_63 : ∀ k, k < 64 → ((Int32.ofNat k).toInt64 &&& 63).toBitVec.smod 64 = BitVec.ofNat 64 k := by decide +kernel
theorem tb1 (c : Nat) : Nat.testBit 1 c = decide (c = 0) := by
  have := Nat.testBit_two_pow (n := 0) (m := c)
  rw [Nat.pow_zero] at this
  rw [this]
  by_cases h : c = 0
  · simp [h]
  · have h2 : ¬ 0 = c := fun e => h e.symm
    simp [h, h2]
theorem bb_one (k c : Nat) (hk : k < 64) : bb ((1 : Int64) <<< ((Int32.ofNat k).toInt64 &&& 63)) c = decide (c = k) := by
  unfold bb tn
  rw [Int64.toBitVec_shiftLeft, sh_63 k hk, BitVec.testBit_toNat, BitVec.shiftLeft_eq', BitVec.toNat_ofNat, Nat.mod_eq_of_lt (by omega : k < 2 ^ 64), BitVec.getLsbD_shiftLeft]
  rw [show (1 : Int64).toBitVec = 1#64 from rfl, BitVec.getLsbD_one]
  by_cases h : c = k
  · subst h; simp [hk]
  · by_cases h2 : c < k
    · simp [h2, h]
    · have : c - k ≠ 0 := by omega
      simp [h, this]
theorem bb_shr (x : Int64) (k : Nat) (hk : k < 64) : (((x >>> ((Int32.ofNat k).toInt64 &&& 63)) &&& 1) = 1) ↔ bb x k = true := by
  have h1 : ∀ c, c < 64 → bb ((x >>> ((Int32.ofNat k).toInt64 &&& 63)) &&& 1) c = (decide (c = 0) && bb x k) := by
    intro c hc
    rw [bb_and]
    have e1 : bb 1 c = decide (c = 0) := by
      show Nat.testBit 1 c = _
      rw [tb1]
    rw [e1]
    by_cases h0 : c = 0
    · subst h0
      unfold bb tn
      rw [Int64.toBitVec_shiftRight, sh_63 k hk, BitVec.testBit_toNat, BitVec.sshiftRight_eq', BitVec.toNat_ofNat, Nat.mod_eq_of_lt (by omega : k < 2 ^ 64), BitVec.getLsbD_sshiftRight, BitVec.testBit_toNat]
      simp [hk]
    · simp [h0]
  constructor
  · intro h
    have := h1 0 (by decide)
    rw [h] at this
    have e : bb 1 0 = true := rfl
    rw [e] at this
    simpa using this.symm
  · intro h
    apply bb_ext
    intro c hc
    rw [h1 c hc, h]
    show _ = Nat.testBit 1 c
    rw [tb1]; simp
theorem nat_odd : ∀ n : Nat, n ≠ 0 → ∃ k m, n = 2 ^ k * (2 * m + 1) := by
  intro n
  induction n using Nat.strongRecOn with
  | ind n ih =>
    intro h
    by_cases h2 : n % 2 = 1
    · exact ⟨0, n / 2, by omega⟩
    · obtain ⟨k, m, e⟩ := ih (n / 2) (by omega) (by omega)
      refine ⟨k + 1, m, ?_⟩
      rw [Nat.pow_succ, Nat.mul_right_comm, ← e]
      omega
theorem odd_bit {k m n : Nat} (e : n = 2 ^ k * (2 * m + 1)) (i : Nat) : n.testBit i = if i < k then false else if i = k then true else m.testBit (i - k - 1) := by
  have e2 : n = 2 ^ k * (2 * m + 1) + 0 := by omega
  rw [e2, Nat.testBit_two_pow_mul_add _ (Nat.two_pow_pos k)]
  by_cases h : i < k
  · simp [h]
  · rw [if_neg h, if_neg h]
    by_cases h2 : i = k
    · subst h2
      rw [if_pos rfl, Nat.sub_self, show 2 * m + 1 = 2 ^ 1 * m + 1 by omega, Nat.testBit_two_pow_mul_add _ (by decide)]
      rfl
    · rw [if_neg h2, show 2 * m + 1 = 2 ^ 1 * m + 1 by omega, Nat.testBit_two_pow_mul_add _ (by decide), if_neg (by omega)]
theorem odd_pred {k m n : Nat} (e : n = 2 ^ k * (2 * m + 1)) (i : Nat) : (n - 1).testBit i = if i < k then true else if i = k then false else m.testBit (i - k - 1) := by
  have hp := Nat.two_pow_pos k
  have e2 : n - 1 = 2 ^ k * (2 * m) + (2 ^ k - 1) := by
    rw [e, Nat.mul_add, Nat.mul_one]
    omega
  rw [e2, Nat.testBit_two_pow_mul_add _ (by omega)]
  by_cases h : i < k
  · rw [if_pos h, if_pos h, Nat.testBit_two_pow_sub_one]
    simp [h]
  · rw [if_neg h, if_neg h, show 2 * m = 2 ^ 1 * m + 0 by omega, Nat.testBit_two_pow_mul_add _ (by decide)]
    by_cases h2 : i = k
    · subst h2
      rw [if_pos (by omega), if_pos rfl]
      exact Nat.zero_testBit _
    · rw [if_neg (by omega), if_neg h2]
theorem tn_one : tn 1 = 1 := rfl
theorem tn_zero : tn 0 = 0 := rfl
theorem tn_ne {x : Int64} (h : x ≠ 0) : tn x ≠ 0 := fun e => h (tn_inj (e.trans tn_zero.symm))
theorem tn_neg {x : Int64} (h : x ≠ 0) : tn (-x) = 2 ^ 64 - tn x := by
  have h1 := tn_ne h
  have h2 := tn_lt x
  unfold tn at *
  rw [Int64.toBitVec_neg, BitVec.toNat_neg, Nat.mod_eq_of_lt (by omega)]
theorem low_bits {x : Int64} (h : x ≠ 0) : ∃ k, k < 64 ∧ bb x k = true ∧ (∀ i, i < k → bb x i = false) ∧ (∀ i, bb (x &&& (x - 1)) i = (bb x i && decide (i ≠ k))) ∧ tn ((x &&& (-x)) - 1) = 2 ^ k - 1 := by
  obtain ⟨k, m, e⟩ := nat_odd (tn x) (tn_ne h)
  have hx := tn_lt x
  have hn := tn_ne h
  have hk : k < 64 := by
    apply Nat.lt_of_not_le
    intro hc
    have h1 : 2 ^ 64 ≤ 2 ^ k := Nat.pow_le_pow_right (by decide) hc
    have h2 : 2 ^ k * 1 ≤ 2 ^ k * (2 * m + 1) := Nat.mul_le_mul_left _ (by omega)
    omega
  have b1 := odd_bit e
  have b2 := odd_pred e
  have hsub : tn (x - 1) = tn x - 1 := tn_sub (by rw [tn_one]; omega)
  refine ⟨k, hk, ?_, ?_, ?_, ?_⟩
  · show (tn x).testBit k = true
    rw [b1, if_neg (by omega), if_pos rfl]
  · intro i hi
    show (tn x).testBit i = false
    rw [b1, if_pos hi]
  · intro i
    rw [bb_and]
    show ((tn x).testBit i && (tn (x - 1)).testBit i) = ((tn x).testBit i && _)
    rw [hsub, b1, b2]
    by_cases h1 : i < k
    · simp [h1]
    · by_cases h2 : i = k
      · simp [h2]
      · simp [h1, h2]
  · have e1 : tn (x &&& (-x)) = 2 ^ k := by
      rw [tn_and, tn_neg h]
      apply Nat.eq_of_testBit_eq
      intro i
      rw [Nat.testBit_and, show 2 ^ 64 - tn x = 2 ^ 64 - ((tn x - 1) + 1) by omega, Nat.testBit_two_pow_sub_succ (by omega), b1, b2, Nat.testBit_two_pow]
      by_cases h1 : i < k
      · have : ¬ k = i := by omega
        simp [h1, this]
      · by_cases h2 : i = k
        · subst h2; simp [hk]
        · have : ¬ k = i := by omega
          simp only [h1, h2, this, if_false]
          cases m.testBit (i - k - 1) <;> simp
    rw [tn_sub, e1, tn_one]
    rw [tn_one, e1]
    exact Nat.two_pow_pos k
theorem bl_low {x : Int64} {k : Nat} (hk : k < 64) (h1 : bb x k = true) (h2 : ∀ i, i < k → bb x i = false) (h3 : ∀ i, bb (x &&& (x - 1)) i = (bb x i && decide (i ≠ k))) : bl x = k :: bl (x &&& (x - 1)) := by
  unfold bl
  have e : List.range 64 = List.range k ++ k :: (List.range (63 - k)).map (fun j => k + 1 + j) := by
    rw [show 64 = k + (1 + (63 - k)) by omega, List.range_add, List.range_add, List.map_append]
    show List.range k ++ ((k + 0) :: _) = _
    rw [List.map_map, Nat.add_zero]
    congr 2
    show [] ++ _ = _
    rw [List.nil_append]
    apply List.map_congr_left
    intro j _
    show k + (1 + j) = k + 1 + j
    omega
  rw [e, List.filter_append, List.filter_append, List.filter_cons, List.filter_cons]
  have f1 : (List.range k).filter (bb x) = [] := List.filter_eq_nil_iff.mpr (fun i hi => by rw [h2 i (List.mem_range.mp hi)]; decide)
  have f2 : (List.range k).filter (bb (x &&& (x - 1))) = [] := List.filter_eq_nil_iff.mpr (fun i hi => by rw [h3, h2 i (List.mem_range.mp hi)]; simp)
  have f3 : bb (x &&& (x - 1)) k = false := by rw [h3]; simp
  rw [f1, f2, if_pos h1, if_neg (by rw [f3]; decide)]
  show k :: _ = k :: _
  congr 1
  apply List.filter_congr
  intro i hi
  obtain ⟨j, _, rfl⟩ := List.mem_map.mp hi
  rw [h3]
  have : k + 1 + j ≠ k := by omega
  simp [this]
theorem bl_zero : bl 0 = [] := List.filter_eq_nil_iff.mpr (fun i _ => by rw [bb_zero]; decide)
theorem low_eq {x : Int64} (h : x ≠ 0) : ∃ k, k < 64 ∧ bl x = k :: bl (x &&& (x - 1)) ∧ FX11_lowest x = some (Int32.ofNat k) := by
  obtain ⟨k, hk, h1, h2, h3, h4⟩ := low_bits h
  refine ⟨k, hk, bl_low hk h1 h2 h3, ?_⟩
  show (if ¬ x = 0 then (FJ_Long_bitCount ((x &&& (-x)) - 1)).bind (fun r4 => some r4) else some (-1)) = _
  rw [if_pos h, bitCount_bl]
  show some _ = _
  congr 2
  unfold bl bb
  rw [h4]
  have e : (List.range 64).filter (2 ^ k - 1).testBit = List.range k := by
    have e2 : List.range 64 = List.range k ++ (List.range (64 - k)).map (fun j => k + j) := by
      rw [← List.range_add, show k + (64 - k) = 64 by omega]
    rw [e2, List.filter_append]
    have g1 : (List.range k).filter (2 ^ k - 1).testBit = List.range k := List.filter_eq_self.mpr (fun i hi => by rw [Nat.testBit_two_pow_sub_one]; simp [List.mem_range.mp hi])
    have g2 : ((List.range (64 - k)).map (fun j => k + j)).filter (2 ^ k - 1).testBit = [] := List.filter_eq_nil_iff.mpr (fun i hi => by
      obtain ⟨j, _, rfl⟩ := List.mem_map.mp hi
      rw [Nat.testBit_two_pow_sub_one]; simp)
    rw [g1, g2, List.append_nil]
  rw [e, List.length_range]
theorem low_zero : FX11_lowest 0 = some (-1) := by
  show (if ¬ (0 : Int64) = 0 then (FJ_Long_bitCount ((0 &&& (-0)) - 1)).bind (fun r4 => some r4) else some (-1)) = _
  rw [if_neg (by decide)]
theorem bl_nil {x : Int64} : bl x = [] ↔ x = 0 := by
  constructor
  · intro h
    by_cases hx : x = 0
    · exact hx
    · obtain ⟨k, _, h1, _⟩ := low_eq hx
      rw [h1] at h; cases h
  · rintro rfl; exact bl_zero
/-- the k-th card of a list, or none -/
def at1 (l : List Nat) (k : Nat) : Int32 := match l[k]? with
  | some c => Int32.ofNat c
  | none => -1
theorem lowest_eq (x : Int64) : FX11_lowest x = some (at1 (bl x) 0) := by
  by_cases h : x = 0
  · subst h; rw [low_zero, bl_zero]; rfl
  · obtain ⟨k, _, h1, h2⟩ := low_eq h
    rw [h2, h1]; rfl
theorem clear_eq (x : Int64) : bl (x &&& (x - 1)) = (bl x).tail := by
  by_cases h : x = 0
  · subst h; rw [show (0 : Int64) &&& (0 - 1) = 0 from by decide, bl_zero]; rfl
  · obtain ⟨k, _, h1, _⟩ := low_eq h
    rw [h1]; rfl
