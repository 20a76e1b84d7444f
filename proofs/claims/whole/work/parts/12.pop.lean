/-! ===== how many bits: Long.bitCount ===== -/
theorem and_split {u v p P : Nat} (hu : u < 256) (hp : p < 256) : (u + 256 * v) &&& (p + 256 * P) = (u &&& p) + 256 * (v &&& P) := by
  apply Nat.eq_of_testBit_eq
  intro i
  have hup : u &&& p < 2 ^ 8 := Nat.lt_of_le_of_lt Nat.and_le_left hu
  rw [Nat.testBit_and, show u + 256 * v = 2 ^ 8 * v + u by omega, show p + 256 * P = 2 ^ 8 * P + p by omega, show (u &&& p) + 256 * (v &&& P) = 2 ^ 8 * (v &&& P) + (u &&& p) by omega, Nat.testBit_two_pow_mul_add _ hu, Nat.testBit_two_pow_mul_add _ hp, Nat.testBit_two_pow_mul_add _ hup]
  by_cases h : i < 8
  · simp only [h, if_true, Nat.testBit_and]
  · simp only [h, if_false, Nat.testBit_and]
def pcm (c : Nat) : Nat → Nat
  | 0 => 0
  | n + 1 => c + 256 * pcm c n
/-- of eight bytes, the first is the lowest -/
def by8 (f : Nat → Nat) : Nat → Nat → Nat
  | 0, _ => 0
  | n + 1, x => f (x % 256) + 256 * by8 f n (x / 256)
def pcA (x : Nat) : Nat := x - ((x / 2) &&& 85)
def pcB (x : Nat) : Nat := (pcA x &&& 51) + ((pcA x / 4) &&& 51)
def pc8 (x : Nat) : Nat := (pcB x + pcB x / 16) &&& 15
theorem pc_b1 : ∀ x, x < 256 → ∀ r, r < 2 → ((x / 2 + 128 * r) &&& 85) = ((x / 2) &&& 85) ∧ ((x / 2) &&& 85) ≤ x ∧ pcA x < 256 := by decide +kernel
theorem pc_b2 : ∀ x, x < 256 → ∀ r, r < 4 → ((pcA x / 4 + 64 * r) &&& 51) = ((pcA x / 4) &&& 51) ∧ pcB x < 256 ∧ pcB x % 16 ≤ 4 ∧ pcB x / 16 ≤ 4 := by decide +kernel
theorem pc_b3 : ∀ x, x < 256 → ∀ r, r < 5 → ((pcB x + pcB x / 16 + 16 * r) &&& 15) = pc8 x ∧ pc8 x ≤ 8 := by decide +kernel
theorem pc_1 : ∀ (n x : Nat), x < 256 ^ n → ((x / 2) &&& pcm 85 n) ≤ x ∧ x - ((x / 2) &&& pcm 85 n) = by8 pcA n x
  | 0, x, h => by
    have : x = 0 := by simpa using h
    subst this
    exact ⟨Nat.le_refl _, rfl⟩
  | n + 1, x, h => by
    have hq : x / 256 < 256 ^ n := by
      rw [Nat.pow_succ] at h
      omega
    obtain ⟨h1, h2⟩ := pc_1 n (x / 256) hq
    have hr : x % 256 < 256 := Nat.mod_lt _ (by decide)
    obtain ⟨b1, b2, b3⟩ := pc_b1 (x % 256) hr (x / 256 % 2) (Nat.mod_lt _ (by decide))
    have e : x / 2 = (x % 256 / 2 + 128 * (x / 256 % 2)) + 256 * (x / 256 / 2) := by omega
    have e2 : (x / 2) &&& pcm 85 (n + 1) = ((x % 256 / 2) &&& 85) + 256 * ((x / 256 / 2) &&& pcm 85 n) := by
      rw [e]
      show _ &&& (85 + 256 * pcm 85 n) = _
      rw [and_split (by omega) (by decide), b1]
    rw [e2]
    refine ⟨by omega, ?_⟩
    show _ = pcA (x % 256) + 256 * by8 pcA n (x / 256)
    rw [← h2]
    unfold pcA
    omega
theorem by8_lt {f : Nat → Nat} (hf : ∀ x, x < 256 → f x < 256) : ∀ (n x : Nat), by8 f n x < 256 ^ n
  | 0, _ => by show 0 < 1; decide
  | n + 1, x => by
    have := by8_lt hf n (x / 256)
    have h2 := hf (x % 256) (Nat.mod_lt _ (by decide))
    show f (x % 256) + 256 * by8 f n (x / 256) < 256 ^ (n + 1)
    rw [Nat.pow_succ]
    omega
theorem by8_le {f : Nat → Nat} {m : Nat} (hf : ∀ x, x < 256 → f x ≤ m) : ∀ (n x : Nat), by8 f n x ≤ m * pcm 1 n
  | 0, _ => by show 0 ≤ m * 0; omega
  | n + 1, x => by
    have := by8_le hf n (x / 256)
    have h2 := hf (x % 256) (Nat.mod_lt _ (by decide))
    show f (x % 256) + 256 * by8 f n (x / 256) ≤ m * (1 + 256 * pcm 1 n)
    rw [Nat.mul_add, Nat.mul_one, Nat.mul_left_comm]
    omega
theorem by8_and {f : Nat → Nat} {p : Nat} (hp : p < 256) (hf : ∀ x, x < 256 → f x < 256) : ∀ (n x : Nat), by8 f n x &&& pcm p n = by8 (fun x => f x &&& p) n x
  | 0, _ => by show 0 &&& 0 = 0; decide
  | n + 1, x => by
    show (f (x % 256) + 256 * by8 f n (x / 256)) &&& (p + 256 * pcm p n) = _
    rw [and_split (hf _ (Nat.mod_lt _ (by decide))) hp, by8_and hp hf n]
    rfl
theorem by8_low {f : Nat → Nat} (n x : Nat) : by8 f (n + 1) x % 256 = f (x % 256) % 256 := by
  show (f (x % 256) + 256 * by8 f n (x / 256)) % 256 = _
  omega
theorem pc_2 : ∀ (n x : Nat), (by8 pcA n x &&& pcm 51 n) + ((by8 pcA n x / 4) &&& pcm 51 n) = by8 pcB n x
  | 0, _ => by show (0 &&& 0) + (0 / 4 &&& 0) = 0; decide
  | n + 1, x => by
    have hr : x % 256 < 256 := Nat.mod_lt _ (by decide)
    have ha : pcA (x % 256) < 256 := (pc_b1 _ hr 0 (by decide)).2.2
    have ih := pc_2 n (x / 256)
    generalize hB : by8 pcA n (x / 256) = B at ih
    obtain ⟨b1, b2, b3⟩ := pc_b2 (x % 256) hr (B % 4) (Nat.mod_lt _ (by decide))
    show ((pcA (x % 256) + 256 * by8 pcA n (x / 256)) &&& (51 + 256 * pcm 51 n)) + (((pcA (x % 256) + 256 * by8 pcA n (x / 256)) / 4) &&& (51 + 256 * pcm 51 n)) = pcB (x % 256) + 256 * by8 pcB n (x / 256)
    rw [hB, and_split ha (by decide), show (pcA (x % 256) + 256 * B) / 4 = (pcA (x % 256) / 4 + 64 * (B % 4)) + 256 * (B / 4) by omega, and_split (by omega) (by decide), b1, ← ih]
    unfold pcB
    omega
theorem pc_3 : ∀ (n x : Nat), ((by8 pcB n x + by8 pcB n x / 16) &&& pcm 15 n) = by8 pc8 n x ∧ by8 pcB n x % 16 ≤ 4
  | 0, _ => ⟨by show (0 + 0 / 16) &&& 0 = 0; decide, by show 0 % 16 ≤ 4; decide⟩
  | n + 1, x => by
    have hr : x % 256 < 256 := Nat.mod_lt _ (by decide)
    obtain ⟨ih, ih2⟩ := pc_3 n (x / 256)
    obtain ⟨-, b2, b3, b4⟩ := pc_b2 (x % 256) hr 0 (by decide)
    generalize hB : by8 pcB n (x / 256) = B at ih ih2
    obtain ⟨c1, c2⟩ := pc_b3 (x % 256) hr (B % 16) (by omega)
    constructor
    · show ((pcB (x % 256) + 256 * by8 pcB n (x / 256)) + (pcB (x % 256) + 256 * by8 pcB n (x / 256)) / 16) &&& (15 + 256 * pcm 15 n) = pc8 (x % 256) + 256 * by8 pc8 n (x / 256)
      rw [hB, ← ih, show pcB (x % 256) + 256 * B + (pcB (x % 256) + 256 * B) / 16 = (pcB (x % 256) + pcB (x % 256) / 16 + 16 * (B % 16)) + 256 * (B + B / 16) by omega, and_split (by omega) (by decide), c1]
    · show (pcB (x % 256) + 256 * by8 pcB n (x / 256)) % 16 ≤ 4
      omega
/-- how many bits of a number below 256 ^ n -/
def pcn : Nat → Nat → Nat
  | 0, _ => 0
  | n + 1, x => pc8 (x % 256) + pcn n (x / 256)
theorem pc8_le (x : Nat) : pc8 (x % 256) ≤ 8 := (pc_b3 _ (Nat.mod_lt _ (by decide)) 0 (by decide)).2
theorem pc_end (x : Nat) : (by8 pc8 8 x + by8 pc8 8 x / 256 + (by8 pc8 8 x + by8 pc8 8 x / 256) / 65536 + (by8 pc8 8 x + by8 pc8 8 x / 256 + (by8 pc8 8 x + by8 pc8 8 x / 256) / 65536) / 4294967296) % 128 = pcn 8 x ∧ pcn 8 x ≤ 64 ∧ by8 pc8 8 x < 2 ^ 62 := by
  have h0 := pc8_le x
  have h1 := pc8_le (x / 256)
  have h2 := pc8_le (x / 256 / 256)
  have h3 := pc8_le (x / 256 / 256 / 256)
  have h4 := pc8_le (x / 256 / 256 / 256 / 256)
  have h5 := pc8_le (x / 256 / 256 / 256 / 256 / 256)
  have h6 := pc8_le (x / 256 / 256 / 256 / 256 / 256 / 256)
  have h7 := pc8_le (x / 256 / 256 / 256 / 256 / 256 / 256 / 256)
  have e1 : by8 pc8 8 x = pc8 (x % 256) + 256 * (pc8 (x / 256 % 256) + 256 * (pc8 (x / 256 / 256 % 256) + 256 * (pc8 (x / 256 / 256 / 256 % 256) + 256 * (pc8 (x / 256 / 256 / 256 / 256 % 256) + 256 * (pc8 (x / 256 / 256 / 256 / 256 / 256 % 256) + 256 * (pc8 (x / 256 / 256 / 256 / 256 / 256 / 256 % 256) + 256 * (pc8 (x / 256 / 256 / 256 / 256 / 256 / 256 / 256 % 256) + 256 * 0))))))) := rfl
  have e2 : pcn 8 x = pc8 (x % 256) + (pc8 (x / 256 % 256) + (pc8 (x / 256 / 256 % 256) + (pc8 (x / 256 / 256 / 256 % 256) + (pc8 (x / 256 / 256 / 256 / 256 % 256) + (pc8 (x / 256 / 256 / 256 / 256 / 256 % 256) + (pc8 (x / 256 / 256 / 256 / 256 / 256 / 256 % 256) + (pc8 (x / 256 / 256 / 256 / 256 / 256 / 256 / 256 % 256) + 0))))))) := rfl
  rw [e1, e2]
  generalize pc8 (x % 256) = c0 at *
  generalize pc8 (x / 256 % 256) = c1 at *
  generalize pc8 (x / 256 / 256 % 256) = c2 at *
  generalize pc8 (x / 256 / 256 / 256 % 256) = c3 at *
  generalize pc8 (x / 256 / 256 / 256 / 256 % 256) = c4 at *
  generalize pc8 (x / 256 / 256 / 256 / 256 / 256 % 256) = c5 at *
  generalize pc8 (x / 256 / 256 / 256 / 256 / 256 / 256 % 256) = c6 at *
  generalize pc8 (x / 256 / 256 / 256 / 256 / 256 / 256 / 256 % 256) = c7 at *
  clear e1 e2
  refine ⟨?_, by omega, by omega⟩
  have dv : ∀ lo R B : Nat, lo < B → (lo + B * R) / B = R := fun lo R B h => by
    rw [Nat.add_mul_div_left _ _ (by omega), Nat.div_eq_of_lt h, Nat.zero_add]
  rw [dv c0 _ 256 (by omega)]
  have a2 : (c0 + 256 * (c1 + 256 * (c2 + 256 * (c3 + 256 * (c4 + 256 * (c5 + 256 * (c6 + 256 * (c7 + 256 * 0))))))) + (c1 + 256 * (c2 + 256 * (c3 + 256 * (c4 + 256 * (c5 + 256 * (c6 + 256 * (c7 + 256 * 0)))))))) = ((c0 + c1) + 256 * (c1 + c2)) + 65536 * ((c2 + c3) + 256 * (c3 + c4) + 65536 * ((c4 + c5) + 256 * (c5 + c6) + 65536 * ((c6 + c7) + 256 * c7))) := by omega
  rw [a2, dv _ _ 65536 (by omega)]
  have a4 : (((c0 + c1) + 256 * (c1 + c2)) + 65536 * ((c2 + c3) + 256 * (c3 + c4) + 65536 * ((c4 + c5) + 256 * (c5 + c6) + 65536 * ((c6 + c7) + 256 * c7))) + ((c2 + c3) + 256 * (c3 + c4) + 65536 * ((c4 + c5) + 256 * (c5 + c6) + 65536 * ((c6 + c7) + 256 * c7)))) = ((c0 + c1 + c2 + c3) + 256 * (c1 + c2 + c3 + c4) + 65536 * (c2 + c3 + c4 + c5) + 16777216 * (c3 + c4 + c5 + c6)) + 4294967296 * ((c4 + c5 + c6 + c7) + 256 * (c5 + c6 + c7) + 65536 * (c6 + c7) + 16777216 * c7) := by omega
  rw [a4, dv _ _ 4294967296 (by omega)]
  have a6 : ((c0 + c1 + c2 + c3) + 256 * (c1 + c2 + c3 + c4) + 65536 * (c2 + c3 + c4 + c5) + 16777216 * (c3 + c4 + c5 + c6)) + 4294967296 * ((c4 + c5 + c6 + c7) + 256 * (c5 + c6 + c7) + 65536 * (c6 + c7) + 16777216 * c7) + ((c4 + c5 + c6 + c7) + 256 * (c5 + c6 + c7) + 65536 * (c6 + c7) + 16777216 * c7) = (c0 + (c1 + (c2 + (c3 + (c4 + (c5 + (c6 + (c7 + 0)))))))) + 128 * (2 * (c1 + c2 + c3 + c4) + 512 * (c2 + c3 + c4 + c5) + 131072 * (c3 + c4 + c5 + c6) + 33554432 * ((c4 + c5 + c6 + c7) + 256 * (c5 + c6 + c7) + 65536 * (c6 + c7) + 16777216 * c7) + 2 * (c5 + c6 + c7) + 512 * (c6 + c7) + 131072 * c7) := by omega
  rw [a6, Nat.add_mul_mod_self_left, Nat.mod_eq_of_lt (by omega)]
/-! ===== bits of a long ===== -/
def tn (x : Int64) : Nat := x.toBitVec.toNat
theorem tn_lt (x : Int64) : tn x < 2 ^ 64 := x.toBitVec.isLt
theorem tn_and (x y : Int64) : tn (x &&& y) = tn x &&& tn y := by unfold tn; rw [Int64.toBitVec_and, BitVec.toNat_and]
theorem tn_or (x y : Int64) : tn (x ||| y) = tn x ||| tn y := by unfold tn; rw [Int64.toBitVec_or, BitVec.toNat_or]
theorem tn_add {x y : Int64} (h : tn x + tn y < 2 ^ 64) : tn (x + y) = tn x + tn y := by
  unfold tn at *
  rw [Int64.toBitVec_add, BitVec.toNat_add, Nat.mod_eq_of_lt h]
theorem tn_sub {x y : Int64} (h : tn y ≤ tn x) : tn (x - y) = tn x - tn y := by
  unfold tn at *
  rw [Int64.toBitVec_sub, BitVec.toNat_sub_of_le h]
theorem tn_ushr (x : Int64) (s : UInt64) (k : Nat) (hk : (s.toBitVec % 64).toNat = k) : tn (x.toUInt64 >>> s).toInt64 = tn x / 2 ^ k := by
  unfold tn
  rw [UInt64.toBitVec_toInt64, UInt64.toBitVec_shiftRight, Int64.toBitVec_toUInt64, BitVec.ushiftRight_eq', BitVec.toNat_ushiftRight, hk, Nat.shiftRight_eq_div_pow]
theorem tn_inj {x y : Int64} (h : tn x = tn y) : x = y := Int64.toBitVec_inj.mp (BitVec.eq_of_toNat_eq h)
