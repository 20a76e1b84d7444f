theorem bitCount_eq (x : Int64) : FJ_Long_bitCount x = some (Int32.ofNat (pcn 8 (tn x))) := by
  have hx := tn_lt x
  obtain ⟨p1, p2⟩ := pc_1 8 (tn x) (by simpa using hx)
  have m5 : tn 6148914691236517205 = pcm 85 8 := by decide +kernel
  have m3 : tn 3689348814741910323 = pcm 51 8 := by decide +kernel
  have mf : tn 1085102592571150095 = pcm 15 8 := by decide +kernel
  have q3 := (pc_3 8 (tn x)).1
  have q2 := pc_2 8 (tn x)
  obtain ⟨q4, q5, q6⟩ := pc_end (tn x)
  have hA := by8_lt (f := pcA) (fun y hy => (pc_b1 y hy 0 (by decide)).2.2) 8 (tn x)
  have hB := by8_lt (f := pcB) (fun y hy => (pc_b2 y hy 0 (by decide)).2.1) 8 (tn x)
  unfold FJ_Long_bitCount
  simp only [nm]
  generalize e1 : x - ((x.toUInt64 >>> ((1 : Int32).toInt64.toUInt64 &&& Int64.toUInt64 63)).toInt64 &&& 6148914691236517205) = v1
  have t1 : tn v1 = by8 pcA 8 (tn x) := by
    rw [← e1, tn_sub, tn_and, tn_ushr x _ 1 (by decide), m5]
    · exact p2
    · rw [tn_and, tn_ushr x _ 1 (by decide), m5]; exact p1
  generalize e2 : (v1 &&& 3689348814741910323) + ((v1.toUInt64 >>> ((2 : Int32).toInt64.toUInt64 &&& Int64.toUInt64 63)).toInt64 &&& 3689348814741910323) = v2
  have t2 : tn v2 = by8 pcB 8 (tn x) := by
    rw [← e2, tn_add, tn_and, tn_and, tn_ushr v1 _ 2 (by decide), m3, t1]
    · exact q2
    · rw [tn_and, tn_and, tn_ushr v1 _ 2 (by decide), m3, t1]
      have : (by8 pcA 8 (tn x) &&& pcm 51 8) + (by8 pcA 8 (tn x) / 4 &&& pcm 51 8) < 256 ^ 8 := by rw [q2]; exact hB
      exact this
  generalize e3 : (v2 + (v2.toUInt64 >>> ((4 : Int32).toInt64.toUInt64 &&& Int64.toUInt64 63)).toInt64) &&& 1085102592571150095 = v3
  have hB2 : by8 pcB 8 (tn x) < 2 ^ 63 := by
    have h1 := by8_le (f := pcB) (m := 68) (fun y hy => by have := pc_b2 y hy 0 (by decide); omega) 8 (tn x)
    have h2 : 68 * pcm 1 8 < 2 ^ 63 := by decide +kernel
    omega
  have t3 : tn v3 = by8 pc8 8 (tn x) := by
    rw [← e3, tn_and, tn_add, tn_ushr v2 _ 4 (by decide), mf, t2]
    · exact q3
    · rw [tn_ushr v2 _ 4 (by decide), t2]; omega
  generalize e4 : v3 + (v3.toUInt64 >>> ((8 : Int32).toInt64.toUInt64 &&& Int64.toUInt64 63)).toInt64 = v4
  have t4 : tn v4 = tn v3 + tn v3 / 256 := by
    rw [← e4, tn_add, tn_ushr v3 _ 8 (by decide)]
    rw [tn_ushr v3 _ 8 (by decide), t3]; omega
  generalize e5 : v4 + (v4.toUInt64 >>> ((16 : Int32).toInt64.toUInt64 &&& Int64.toUInt64 63)).toInt64 = v5
  have t5 : tn v5 = tn v4 + tn v4 / 65536 := by
    rw [← e5, tn_add, tn_ushr v4 _ 16 (by decide)]
    rw [tn_ushr v4 _ 16 (by decide), t4, t3]; omega
  generalize e6 : v5 + (v5.toUInt64 >>> ((32 : Int32).toInt64.toUInt64 &&& Int64.toUInt64 63)).toInt64 = v6
  have t6 : tn v6 = tn v5 + tn v5 / 4294967296 := by
    rw [← e6, tn_add, tn_ushr v5 _ 32 (by decide)]
    rw [tn_ushr v5 _ 32 (by decide), t5, t4, t3]; omega
  have t7 : tn v6 % 128 = pcn 8 (tn x) := by
    rw [t6, t5, t4, t3]; exact q4
  refine congrArg some ?_
  apply Int32.toBitVec_inj.mp
  apply BitVec.eq_of_toNat_eq
  rw [Int32.toBitVec_and, BitVec.toNat_and, Int64.toBitVec_toInt32, BitVec.signExtend_eq_setWidth_of_le _ (by decide), BitVec.toNat_setWidth, show (127 : Int32).toBitVec.toNat = 2 ^ 7 - 1 from rfl, Nat.and_two_pow_sub_one_eq_mod]
  show tn v6 % 2 ^ 32 % 2 ^ 7 = (BitVec.ofNat 32 (pcn 8 (tn x))).toNat
  rw [BitVec.toNat_ofNat]
  omega
