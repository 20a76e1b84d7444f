/-! ===== FEW ===== -/
theorem jn_int {n : Nat} (h : n < 9223372036854775808) : (Int64.ofNat n).toInt = n := Int64.toInt_ofNat_of_lt h
theorem jn_add (a b : Nat) : Int64.ofNat a + Int64.ofNat b = Int64.ofNat (a + b) := (Int64.ofNat_add a b).symm
theorem i2j_nn {n : Nat} (h : n < 2147483648) : (Int32.ofNat n).toInt64 = Int64.ofNat n := by
  apply Int64.toInt_inj.mp
  rw [j_int, nn_int h, jn_int (by omega)]
theorem nn_sub {a b : Nat} (h : b ≤ a) (ha : a < 2147483648) : Int32.ofNat a - Int32.ofNat b = Int32.ofNat (a - b) := by
  apply Int32.toInt_inj.mp
  rw [i_sub, nn_int ha, nn_int (by omega), nn_int (by omega)]
  · omega
  · rw [nn_int ha, nn_int (by omega)]; omega
  · rw [nn_int ha, nn_int (by omega)]; omega
theorem fw_part {x w : Nat} (hx : x ≤ 1000000000000) (hw : w ≤ 10) : Int64.ofNat x * (Int32.ofNat w).toInt64 / 10 = Int64.ofNat (x * w / 10) := by
  have h1 : x * w ≤ 1000000000000 * 10 := Nat.mul_le_mul hx hw
  rw [i2j_nn (by omega)]
  apply Int64.toInt_inj.mp
  have e : (Int64.ofNat x * Int64.ofNat w).toInt = ((x * w : Nat) : Int) := by
    rw [j_mul, jn_int (by omega), jn_int (by omega)]
    · omega
    · rw [jn_int (by omega), jn_int (by omega)]; omega
    · rw [jn_int (by omega), jn_int (by omega)]; omega
  rw [j_div (by decide), e, jn_int (by omega), show (10 : Int64).toInt = ((10 : Nat) : Int) from rfl, ← Int.ofNat_tdiv]
def fwF (m : Nat) : Nat → Nat → Nat
  | 0, j => if j = 0 then 1000000000000 else 0
  | i + 1, j => fwF m i j * (10 - m) / 10 + (if j = 0 then 0 else fwF m i (j - 1) * m / 10)
theorem fwF_le {m : Nat} (hm : m ≤ 10) : ∀ i j, fwF m i j ≤ 1000000000000
  | 0, j => by unfold fwF; split <;> omega
  | i + 1, j => by
    have h1 := Nat.mul_le_mul_right (10 - m) (fwF_le hm i j)
    unfold fwF
    split
    · omega
    · have h2 := Nat.mul_le_mul_right m (fwF_le hm i (j - 1))
      omega
def fwS (m n : Nat) : Nat → Nat
  | 0 => 0
  | j + 1 => fwS m n j + fwF m n j
theorem fwS_le {m n : Nat} (hm : m ≤ 10) : ∀ j, fwS m n j ≤ 1000000000000 * j
  | 0 => by show 0 ≤ _; omega
  | j + 1 => by
    have := fwS_le hm (n := n) j
    have h2 := fwF_le hm n j
    show fwS m n j + fwF m n j ≤ _
    omega
theorem few_class {t a : Nat} {M : Mem} {k n m : Nat} (hk : 1 ≤ k ∧ k ≤ 20) (hn : n ≤ 99) (hm : m ≤ 10) (hT : mI M (t + 9) 0 = Int32.ofNat m) : So (FX11_few t (Int32.ofNat k) (Int32.ofNat n) a M) (fun r => r.1 = Int64.ofNat (fwS m n k) ∧ r.2.1 = [(21, 20)] ∧ Eo (fun q => q = a) M r.2.2) := by
  have hterm : FX6_term (t + 1) 1 M = some (Int32.ofNat m) := by
    show (if (1 : Int32) < 1 then some (mI M (t + 1 + 1) 12) else if (4 : Int32) ≤ 1 then some (mI M (t + 1 + 1) 12) else gd (inb (1 - 1) 3) (some (mI M (t + 1 + 8) (ix (1 - 1))))) = _
    rw [if_neg (by decide), if_neg (by decide)]
    show some (mI M (t + 1 + 8) 0) = _
    rw [show t + 1 + 8 = t + 9 by omega, hT]
  unfold FX11_few
  refine So_jn0 ?_
  refine So.ite (fun h => absurd h ?_) (fun _ => So.ite (fun h => absurd h ?_) (fun _ => So.ite (fun h => absurd h ?_) (fun _ => So.ite (fun _ => ?_) (fun h => absurd ?_ h))))
  · rw [show (1 : Int32) = Int32.ofNat 1 from rfl, nn_lt (by omega) (by omega)]; omega
  · rw [show (20 : Int32) = Int32.ofNat 20 from rfl, nn_lt (by omega) (by omega)]; omega
  · rw [show (0 : Int32) = Int32.ofNat 0 from rfl, nn_lt (by omega) (by omega)]; omega
  · refine So.bindE hterm (So_nm (So_nm ?_))
    have hP : Eo (fun q => q = a) M (put M a 1 Z0) := fun b hb => by
      have hc : ¬ (a ≤ b ∧ b < a + 1) := fun q => hb (by omega)
      refine ⟨?_, ?_, ?_, ?_⟩
      · show (if a ≤ b ∧ b < a + 1 then Z0.1 (b - a) else M.1 b) = M.1 b
        rw [if_neg hc]
      · show (if a ≤ b ∧ b < a + 1 then Z0.2.1 (b - a) else M.2.1 b) = M.2.1 b
        rw [if_neg hc]
      · show (if a ≤ b ∧ b < a + 1 then Z0.2.2.1 (b - a) else M.2.2.1 b) = M.2.2.1 b
        rw [if_neg hc]
      · show (if a ≤ b ∧ b < a + 1 then Z0.2.2.2 (b - a) else M.2.2.2 b) = M.2.2.2 b
        rw [if_neg hc]
    have hz : ∀ j, mJ (put M a 1 Z0) a j = 0 := fun j => by
      show (if a ≤ a ∧ a < a + 1 then Z0.2.1 (a - a) else M.2.1 a) j = 0
      rw [if_pos (by omega)]; rfl
    refine So_wl2 (fun v N => ∃ i, i ≤ n ∧ v = Int32.ofNat i ∧ Eo (fun q => q = a) M N ∧ ∀ j, j < k → mJ N a j = Int64.ofNat (fwF m i j)) (fun v _ => n - ix v) ?_ fuel 0 _ ⟨0, by omega, rfl, hP.tr (Eo_sJ rfl), fun j hj => ?_⟩ ?_
    · rintro v N rec ⟨i, hi, rfl, hE, hF⟩ hr
      refine So.ite (fun h => ?_) (fun h => So_nm ?_)
      · rw [nn_le (by omega) (by omega)] at h
        obtain rfl : i = n := by omega
        refine So_wl2 (fun s v => ∃ j, j ≤ k ∧ v = Int32.ofNat j ∧ s = Int64.ofNat (fwS m i j)) (fun _ v => k - ix v) ?_ fuel 0 0 ⟨0, by omega, rfl, rfl⟩ ?_
        · rintro s v rec2 ⟨j, hj, rfl, rfl⟩ hr2
          refine So.ite (fun h => So.ok ?_) (fun h => So_gd ?_ (So_nm (So_nm ?_)))
          · rw [nn_le (by omega) (by omega)] at h
            obtain rfl : j = k := by omega
            exact ⟨rfl, rfl, hE⟩
          · exact inb_nn (by rw [nn_le (by omega) (by omega)] at h; omega) (by decide)
          · rw [nn_le (by omega) (by omega)] at h
            rw [s1, nn_ix (by omega), hF j (by omega), jn_add]
            refine hr2 _ _ ⟨j + 1, by omega, rfl, rfl⟩ ?_
            rw [nn_ix (by omega), nn_ix (by omega)]; omega
        · rw [show (0 : Int32) = Int32.ofNat 0 from rfl, nn_ix (by omega)]; unfold fuel; omega
      · rw [nn_le (by omega) (by omega)] at h
        have hlast : ∀ N2 : Mem, Eo (fun q => q = a) M N2 → (∀ j, j < k → mJ N2 a j = Int64.ofNat (fwF m (i + 1) j)) → So (rec (Int32.ofNat i + 1) N2) (fun r => r.1 = Int64.ofNat (fwS m n k) ∧ r.2.1 = [(21, 20)] ∧ Eo (fun q => q = a) M r.2.2) := by
          intro N2 hE2 hF2
          rw [s1]
          refine hr _ _ ⟨i + 1, by omega, rfl, hE2, hF2⟩ ?_
          rw [nn_ix (by omega), nn_ix (by omega)]; omega
        have e9 : Int32.ofNat k - 1 = Int32.ofNat (k - 1) := nn_sub (b := 1) hk.1 (by omega)
        rw [e9]
        -- places from above: those above v hold the new parts
        refine So_wl2 (fun v N2 => ∃ j, j ≤ k ∧ v = Int32.ofInt ((j : Int) - 1) ∧ Eo (fun q => q = a) M N2 ∧ (∀ q, q < j → mJ N2 a q = Int64.ofNat (fwF m i q)) ∧ ∀ q, j ≤ q → q < k → mJ N2 a q = Int64.ofNat (fwF m (i + 1) q)) (fun v _ => (v.toInt + 1).toNat) ?_ fuel _ _ ⟨k, Nat.le_refl _, ?_, hE, hF, fun q h1 h2 => absurd h1 (by omega)⟩ ?_
        · rintro v N2 rec2 ⟨j, hj, rfl, hE2, hF2, hG2⟩ hr2
          have hv : (Int32.ofInt ((j : Int) - 1)).toInt = (j : Int) - 1 := Int32.toInt_ofInt_of_le (by omega) (by omega)
          refine So.ite (fun h => So_nm ?_) (fun h => So_jn1 ?_)
          · rw [Int32.lt_iff_toInt_lt, hv, show (0 : Int32).toInt = 0 from rfl] at h
            obtain rfl : j = 0 := by omega
            exact hlast N2 hE2 (fun q hq => hG2 q (by omega) hq)
          · rw [Int32.lt_iff_toInt_lt, hv, show (0 : Int32).toInt = 0 from rfl] at h
            obtain ⟨j, rfl⟩ : ∃ i, j = i + 1 := ⟨j - 1, by omega⟩
            have hv2 : Int32.ofInt (((j + 1 : Nat) : Int) - 1) = Int32.ofNat j := by
              apply Int32.toInt_inj.mp
              rw [hv, nn_int (by omega)]; omega
            rw [hv2]
            have step : ∀ w : Int64, w = Int64.ofNat (if j = 0 then 0 else fwF m i (j - 1) * m / 10) → So (gd (inb (Int32.ofNat j) 20) (gd (inb (Int32.ofNat j) 20) (nm (sJ N2 a (ix (Int32.ofNat j)) (((mJ N2 a (ix (Int32.ofNat j))) * ((10 - Int32.ofNat m).toInt64)) / 10 + w)) fun M28 => nm (Int32.ofNat j + (-1)) fun v30 => rec2 v30 M28))) (fun r => r.1 = Int64.ofNat (fwS m n k) ∧ r.2.1 = [(21, 20)] ∧ Eo (fun q => q = a) M r.2.2) := by
              rintro w rfl
              refine So_gd (inb_nn (by omega) (by decide)) (So_gd (inb_nn (by omega) (by decide)) (So_nm (So_nm ?_)))
              rw [nn_ix (by omega), hF2 j (by omega), show (10 : Int32) - Int32.ofNat m = Int32.ofNat (10 - m) from nn_sub hm (by decide), fw_part (fwF_le hm i j) (by omega), jn_add]
              have hv3 : Int32.ofNat j + (-1) = Int32.ofInt ((j : Int) - 1) := by
                apply Int32.toInt_inj.mp
                rw [i_add, nn_int (by omega), Int32.toInt_ofInt_of_le (by omega) (by omega)]
                · rfl
                · rw [nn_int (by omega), show (-1 : Int32).toInt = -1 from rfl]; omega
                · rw [nn_int (by omega), show (-1 : Int32).toInt = -1 from rfl]; omega
              rw [hv3]
              refine hr2 _ _ ⟨j, by omega, rfl, hE2.tr (Eo_sJ rfl), fun q hq => ?_, fun q h1 h2 => ?_⟩ ?_
              · rw [mJ_sJ, if_neg (by omega)]
                exact hF2 q (by omega)
              · rw [mJ_sJ]
                by_cases hqj : q = j
                · subst hqj; rw [if_pos ⟨rfl, rfl⟩]; rfl
                · rw [if_neg (fun z => hqj z.2)]
                  exact hG2 q (by omega) h2
              · rw [Int32.toInt_ofInt_of_le (by omega) (by omega), hv]; omega
            refine So.ite (fun h0 => So_gd ?_ ?_) (fun h0 => ?_)
            · rw [show (0 : Int32) = Int32.ofNat 0 from rfl, nn_eq (by omega) (by omega)] at h0
              rw [show (1 : Int32) = Int32.ofNat 1 from rfl, nn_sub (by omega) (by omega)]
              exact inb_nn (by omega) (by decide)
            · rw [show (0 : Int32) = Int32.ofNat 0 from rfl, nn_eq (by omega) (by omega)] at h0
              refine step _ ?_
              rw [show (1 : Int32) = Int32.ofNat 1 from rfl, nn_sub (by omega) (by omega), nn_ix (by omega), hF2 (j - 1) (by omega), fw_part (fwF_le hm i (j - 1)) hm, if_neg h0]
            · rw [show (0 : Int32) = Int32.ofNat 0 from rfl, nn_eq (by omega) (by omega)] at h0
              refine step _ ?_
              rw [if_pos (Classical.not_not.mp h0)]; rfl
        · apply Int32.toInt_inj.mp
          rw [nn_int (by omega), Int32.toInt_ofInt_of_le (by omega) (by omega)]; omega
        · rw [nn_int (by omega)]; unfold fuel; omega
    · rw [mJ_sJ]
      unfold fwF
      by_cases h0 : j = 0
      · subst h0; rw [if_pos ⟨rfl, rfl⟩, if_pos rfl]; rfl
      · rw [if_neg (fun z => h0 z.2), if_neg h0, hz]; rfl
    · rw [show (0 : Int32) = Int32.ofNat 0 from rfl, nn_ix (by omega)]; unfold fuel; omega
  · rw [show (99 : Int32) = Int32.ofNat 99 from rfl, nn_le (by omega) (by omega)]; exact hn
