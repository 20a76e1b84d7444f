def DoE (b s d : Nat) (M N : Mem) : Prop := Eo (fun q => q = b ∨ q = b + 1) M N ∧ Bs (mJ N (b + 1) 0) (fun c => decide (dlO s d 13 c = Int32.ofNat 0)) ∧ Bs (mJ N (b + 1) 1) (fun c => decide (dlO s d 13 c = Int32.ofNat 1)) ∧ mJ N b 3 = 0 ∧ mJ N b 4 = 0 ∧ mI N b 5 = 1 ∧ mI N b 6 = Int32.ofNat d ∧ mI N b 7 = Int32.ofNat (dlC s 12) ∧ mI N b 8 = 0 ∧ mI N b 9 = 0 ∧ mI N b 10 = -1 ∧ mI N b 11 = -1 ∧ mI N b 12 = mI M b 12 + 1
theorem dl_step {s i : Nat} {v7 : Int64} (hs : s ≤ 1000003) (hi : i < 52) (hB : Bs v7 (dlS s i).1) : irm (Int32.ofNat (dlS s i).2 * 1103 + 12345) 1000003 = Int32.ofNat (dlS s (i + 1)).2 ∧ FX11_cardAt v7 (irm (Int32.ofNat (dlS s (i + 1)).2) (52 - Int32.ofNat i)) = some (Int32.ofNat (dlC s i)) ∧ Bs (v7 &&& (((1 : Int64) <<< ((Int32.ofNat (dlC s i)).toInt64 &&& 63)) ^^^ (-1))) (dlS s (i + 1)).1 ∧ ((52 - Int32.ofNat i) != 0) = true := by
  have h1 := dlS_seed hs i
  have h2 : (dlS s (i + 1)).2 = sdN (dlS s i).2 := rfl
  have h3 : sdN (dlS s i).2 < 1000003 := Nat.mod_lt _ (by decide)
  have e52 : (52 : Int32) - Int32.ofNat i = Int32.ofNat (52 - i) := nn_sub (a := 52) (by omega) (by omega)
  refine ⟨?_, ?_, ?_, ?_⟩
  · rw [show Int32.ofNat (dlS s i).2 * 1103 = Int32.ofNat ((dlS s i).2 * 1103) from nn_mul _ 1103, show Int32.ofNat ((dlS s i).2 * 1103) + 12345 = Int32.ofNat ((dlS s i).2 * 1103 + 12345) from nn_add _ 12345]
    exact nn_rem (b := 1000003) (by omega) (by decide)
  · rw [e52, h2, nn_rem (by omega) (by omega)]
    have hm : sdN (dlS s i).2 % (52 - i) < 52 - i := Nat.mod_lt _ (by omega)
    rw [hB.at (by omega), at1_getD (by rw [dlS_len i (by omega)]; exact hm)]
    rfl
  · exact hB.andnot (Bs.one (dlC_in hi).1)
  · rw [e52]
    simp only [bne_iff_ne, ne_eq]
    intro z
    have := (nn_eq (b := 0) (by omega) (by omega)).mp z
    omega
