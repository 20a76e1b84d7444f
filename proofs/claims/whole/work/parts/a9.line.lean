/-! ===== what a line counts ===== -/
def mk (g : Nat → Nat) : Nat → Nat
  | 0 => 0
  | k + 1 => mk g k ||| 2 ^ g k
def dis (g : Nat → Nat) : Nat → Bool
  | 0 => true
  | k + 1 => dis g k && !(mk g k).testBit (g k)
def rnB (g : Nat → Nat) (k : Nat) : Bool := dis g k && (List.range 13).any (fun lo => mk g k == 2 ^ lo * (2 ^ k - 1))
def rnF (g : Nat → Nat) : Nat → Nat
  | 0 => 0
  | k + 1 => if 3 ≤ k + 1 ∧ rnB g (k + 1) = true then k + 1 else rnF g k
def alB (g : Nat → Nat) (k : Nat) : Bool := (List.range k).all (fun i => g i == g 0)
def alF (g : Nat → Nat) : Nat → Nat
  | 0 => 0
  | k + 1 => if alB g (k + 1) = true then k + 1 else alF g k
theorem alB_iff {g : Nat → Nat} {k : Nat} : alB g k = true ↔ ∀ i, i < k → g i = g 0 := by
  unfold alB
  rw [List.all_eq_true]
  exact ⟨fun h i hi => by simpa using h i (List.mem_range.mpr hi), fun h i hi => by simpa using h i (List.mem_range.mp hi)⟩
theorem alF_eq {g : Nat → Nat} {n k : Nat} (h1 : k ≤ n) (h2 : ∀ i, i < k → g i = g 0) (h3 : k = n ∨ g k ≠ g 0) : alF g n = k := by
  induction n with
  | zero => show 0 = k; omega
  | succ n ih =>
    show (if alB g (n + 1) = true then n + 1 else alF g n) = k
    by_cases z : k = n + 1
    · rw [if_pos (alB_iff.mpr (fun i hi => h2 i (by omega))), z]
    · have h3 := h3.resolve_left z
      rw [if_neg (fun y => h3 (alB_iff.mp y k (by omega)))]
      exact ih (by omega) (Or.inr h3)
theorem alF_le {g : Nat → Nat} : ∀ n, alF g n ≤ n
  | 0 => Nat.le_refl _
  | n + 1 => by
    show (if alB g (n + 1) = true then n + 1 else alF g n) ≤ n + 1
    have := alF_le (g := g) n
    split <;> omega
theorem rnF_le {g : Nat → Nat} : ∀ n, rnF g n ≤ n
  | 0 => Nat.le_refl _
  | n + 1 => by
    show (if 3 ≤ n + 1 ∧ rnB g (n + 1) = true then n + 1 else rnF g n) ≤ n + 1
    have := rnF_le (g := g) n
    split <;> omega
theorem rnF_3 {g : Nat → Nat} : ∀ n, rnF g n = 0 ∨ 3 ≤ rnF g n
  | 0 => Or.inl rfl
  | n + 1 => by
    show (if 3 ≤ n + 1 ∧ rnB g (n + 1) = true then n + 1 else rnF g n) = 0 ∨ 3 ≤ (if 3 ≤ n + 1 ∧ rnB g (n + 1) = true then n + 1 else rnF g n)
    by_cases z : 3 ≤ n + 1 ∧ rnB g (n + 1) = true
    · rw [if_pos z]; exact Or.inr z.1
    · rw [if_neg z]; exact rnF_3 n
theorem dis_no {g : Nat → Nat} {k : Nat} (h : dis g k = false) : ∀ j, dis g (k + j) = false
  | 0 => h
  | j + 1 => by
    show (dis g (k + j) && _) = false
    rw [dis_no h j]; rfl
theorem rnF_stop {g : Nat → Nat} {k : Nat} (h : dis g (k + 1) = false) : ∀ j, rnF g (k + j) = rnF g k
  | 0 => rfl
  | j + 1 => by
    show (if 3 ≤ k + j + 1 ∧ rnB g (k + j + 1) = true then k + j + 1 else rnF g (k + j)) = rnF g k
    have : rnB g (k + j + 1) = false := by
      unfold rnB
      rw [show k + j + 1 = k + 1 + j by omega, dis_no h j]; rfl
    rw [this, if_neg (fun z => by cases z.2)]
    exact rnF_stop h j
theorem mk_bit {g : Nat → Nat} {k x : Nat} : (mk g k).testBit x = true ↔ ∃ i, i < k ∧ g i = x := by
  induction k with
  | zero =>
    constructor
    · intro h
      rw [show mk g 0 = 0 from rfl, Nat.zero_testBit] at h
      cases h
    · rintro ⟨i, hi, _⟩
      omega
  | succ k ih =>
    show (mk g k ||| 2 ^ g k).testBit x = true ↔ _
    rw [Nat.testBit_or, Bool.or_eq_true, ih, Nat.testBit_two_pow]
    constructor
    · rintro (⟨i, a, b⟩ | h)
      · exact ⟨i, by omega, b⟩
      · exact ⟨k, by omega, by simpa using h⟩
    · rintro ⟨i, a, b⟩
      by_cases z : i = k
      · subst z; exact Or.inr (by simpa using b)
      · exact Or.inl ⟨i, by omega, b⟩
theorem mk_lt {g : Nat → Nat} {k : Nat} (h : ∀ i, i < k → g i < 13) : mk g k < 8192 := by
  refine Nat.lt_pow_two_of_testBit (n := 13) _ (fun i hi => ?_)
  cases hb : (mk g k).testBit i with
  | false => rfl
  | true =>
    obtain ⟨j, a, b⟩ := mk_bit.mp hb
    have := h j a
    omega
theorem dis_pop {g : Nat → Nat} : ∀ k, (∀ i, i < k → g i < 13) → dis g k = true → (cs (fun c => (mk g k).testBit c)).length = k
  | 0, _, _ => by
    rw [cs_nil (fun c _ => by rw [show mk g 0 = 0 from rfl, Nat.zero_testBit])]; rfl
  | k + 1, h, hd => by
    have hd : (dis g k && !(mk g k).testBit (g k)) = true := hd
    rw [Bool.and_eq_true, Bool.not_eq_true'] at hd
    have e : cs (fun c => (mk g (k + 1)).testBit c) = cs (fun c => (mk g k).testBit c || decide (c = g k)) := cs_cg (fun c _ => by
      show (mk g k ||| 2 ^ g k).testBit c = _
      rw [Nat.testBit_or, Nat.testBit_two_pow]
      congr 1
      exact decide_eq_decide.mpr ⟨fun z => z.symm, fun z => z.symm⟩)
    rw [e, cs_ins _ _ hd.2 (by have := h k (by omega); omega), dis_pop k (fun i hi => h i (by omega)) hd.1]
theorem win_len : ∀ lo, lo < 13 → ∀ k, k < 9 → (cs (fun c => decide (lo ≤ c ∧ c < lo + k))).length = k := by decide
theorem win_bit {lo k x : Nat} : (2 ^ lo * (2 ^ k - 1)).testBit x = decide (lo ≤ x ∧ x < lo + k) := by
  rw [Nat.testBit_two_pow_mul]
  by_cases z : lo ≤ x
  · rw [decide_eq_true z, Bool.true_and, Nat.testBit_two_pow_sub_one]
    exact decide_eq_decide.mpr ⟨fun y => ⟨z, by omega⟩, fun y => by omega⟩
  · rw [decide_eq_false z, decide_eq_false (fun y => z y.1)]; rfl
theorem any13 {P : Nat → Bool} : (List.range 13).any P = true ↔ ∃ lo, lo < 13 ∧ P lo = true := by
  rw [List.any_eq_true]
  exact ⟨fun ⟨x, a, b⟩ => ⟨x, List.mem_range.mp a, b⟩, fun ⟨x, a, b⟩ => ⟨x, List.mem_range.mpr a, b⟩⟩
/-- the reference's way: the highest less the lowest -/
theorem rnB_hl {g : Nat → Nat} {k lo hi : Nat} (hk : 1 ≤ k ∧ k ≤ 8) (h : ∀ i, i < k → g i < 13) (hl : ∀ i, i < k → lo ≤ g i) (hl2 : ∃ i, i < k ∧ g i = lo) (hh : ∀ i, i < k → g i ≤ hi) (hh2 : ∃ i, i < k ∧ g i = hi) : rnB g k = true ↔ dis g k = true ∧ hi = lo + (k - 1) := by
  unfold rnB
  rw [Bool.and_eq_true, any13]
  refine and_congr_right (fun hd => ⟨fun ⟨l, l1, l2⟩ => ?_, fun e => ?_⟩)
  · have l2 : mk g k = 2 ^ l * (2 ^ k - 1) := by simpa using l2
    have hb : ∀ x, (∃ i, i < k ∧ g i = x) ↔ (l ≤ x ∧ x < l + k) := fun x => by
      rw [← mk_bit, l2, win_bit, decide_eq_true_eq]
    have a1 := (hb lo).mp hl2
    have a2 := (hb hi).mp hh2
    obtain ⟨i, b1, b2⟩ := (hb l).mpr (by omega)
    obtain ⟨j, c1, c2⟩ := (hb (l + (k - 1))).mpr (by omega)
    have := hl i b1
    have := hh j c1
    omega
  · obtain ⟨i, b1, b2⟩ := hl2
    have hlo : lo < 13 := by have := h i b1; omega
    refine ⟨lo, hlo, ?_⟩
    have hp := dis_pop k h hd
    have hw := win_len lo hlo k (by omega)
    have hsub : ∀ c, c < 52 → (mk g k).testBit c = true → decide (lo ≤ c ∧ c < lo + k) = true := fun c _ hc => by
      obtain ⟨j, c1, c2⟩ := mk_bit.mp hc
      have := hl j c1
      have := hh j c1
      exact decide_eq_true ⟨by omega, by omega⟩
    have heq : ∀ x, x < 52 → (mk g k).testBit x = decide (lo ≤ x ∧ x < lo + k) := fun x hx => by
      cases hb : (mk g k).testBit x with
      | true => exact (hsub x hx hb).symm
      | false =>
        cases hc : decide (lo ≤ x ∧ x < lo + k) with
        | false => rfl
        | true =>
          have := cs_del (P := fun c => decide (lo ≤ c ∧ c < lo + k)) hc hx
          have h2 : (cs (fun c => (mk g k).testBit c)).length ≤ (cs (fun c => decide (lo ≤ c ∧ c < lo + k) && !decide (c = x))).length := cs_sub (fun c hc' hm => by
            rw [hsub c hc' hm, Bool.true_and]
            have : c ≠ x := fun z => by rw [z, hb] at hm; cases hm
            simpa using this)
          omega
    have hlt := mk_lt h
    have : mk g k = 2 ^ lo * (2 ^ k - 1) := Nat.eq_of_testBit_eq (fun x => by
      rw [win_bit]
      by_cases hx : x < 52
      · exact heq x hx
      · rw [decide_eq_false (by omega), Nat.testBit_lt_two_pow (Nat.lt_of_lt_of_le hlt (Nat.le_trans (show 8192 ≤ 2 ^ 13 by decide) (Nat.pow_le_pow_right (by decide) (by omega))))])
    simpa using this
/-- the class's way: bits without a gap -/
theorem sh_tab : ∀ r, r < 13 → ((1 : Int32) <<< (Int32.ofNat r &&& 31)) = Int32.ofNat (2 ^ r) := by decide +kernel
