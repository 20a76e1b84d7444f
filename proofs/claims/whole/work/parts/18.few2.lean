/-- a loop from 0 on over the memory -/
theorem loop_for {τ : Type} {Q : τ → Prop} {step : Int32 → Mem → (Int32 → Mem → Option τ) → Option τ} (n : Nat) (hn : n < 900000) (I : Nat → Mem → Prop) (M0 : Mem) (h0 : I 0 M0) (h1 : ∀ M rec, I n M → So (step (Int32.ofNat n) M rec) Q) (h2 : ∀ i M rec, i < n → I i M → (∀ M', I (i + 1) M' → So (rec (Int32.ofNat i + 1) M') Q) → So (step (Int32.ofNat i) M rec) Q) : So (wl2 step fuel 0 M0) Q := by
  refine So_wl2 (fun v M => ∃ i, i ≤ n ∧ v = Int32.ofNat i ∧ I i M) (fun v _ => n - ix v) ?_ fuel 0 M0 ⟨0, by omega, rfl, h0⟩ (by rw [show (0 : Int32) = Int32.ofNat 0 from rfl, nn_ix (by omega)]; unfold fuel; omega)
  rintro v M rec ⟨i, hi, rfl, hI⟩ hr
  by_cases h : i = n
  · subst h; exact h1 M rec hI
  · refine h2 i M rec (by omega) hI (fun M' hM' => ?_)
    rw [s1]
    refine hr _ _ ⟨i + 1, by omega, rfl, hM'⟩ ?_
    rw [nn_ix (by omega), nn_ix (by omega)]; omega
theorem few_model {u : Nat} {M : Mem} {k n m : Nat} (hk : 1 ≤ k ∧ k ≤ 20) (hn : n ≤ 99) (hm : m ≤ 10) (hT : mI M (u + 2) 5 = Int32.ofNat m) : So (FX12_few u (Int32.ofNat k) (Int32.ofNat n) M) (fun r => r.1 = Int64.ofNat (fwS m n k) ∧ Eo (fun q => q = u + 38) (sI M u 0 0) r.2) := by
  unfold FX12_few
  refine So_nm ?_
  have hT1 : mI (sI M u 0 0) (u + 2) 5 = Int32.ofNat m := by rw [mI_sI, if_neg (by omega), hT]
  generalize sI M u 0 0 = M1 at hT1 ⊢
  have hin1 : FX12_in (Int32.ofNat k).toInt64 1 20 = some 1 := by
    rw [in_i, nn_int (by omega), show (1 : Int64).toInt = 1 from rfl, show (20 : Int64).toInt = 20 from rfl, if_pos (by omega)]
  have hin2 : FX12_in (Int32.ofNat n).toInt64 0 99 = some 1 := by
    rw [in_i, nn_int (by omega), show (0 : Int64).toInt = 0 from rfl, show (99 : Int64).toInt = 99 from rfl, if_pos (by omega)]
  refine So.bindE hin1 (So_jn0 ?_)
  refine So.ite (fun h => absurd h (by decide)) (fun _ => So.bindE hin2 ?_)
  refine So.ite (fun _ => ?_) (fun h => absurd (by decide) h)
  refine loop_for 21 (by decide) (fun i N => Eo (fun q => q = u + 38) M1 N ∧ ∀ j, j < i → mJ N (u + 38) j = Int64.ofNat (fwF m 0 j)) M1 ⟨Eo.rf, fun j hj => absurd hj (by omega)⟩ (fun N rec hI => ?_) (fun i N rec hi hI hr => ?_)
  · refine So.ite (fun _ => So_nm ?_) (fun h => absurd (by decide) h)
    obtain ⟨hE, hF⟩ := hI
    have hm5 : mI N (u + 2) 5 = Int32.ofNat m := by rw [(hE (u + 2) (by omega)).1]; exact hT1
    rw [hm5]
    refine loop_for n (by omega) (fun i N => Eo (fun q => q = u + 38) M1 N ∧ ∀ j, j < k → mJ N (u + 38) j = Int64.ofNat (fwF m i j)) N ⟨hE, fun j hj => hF j (by omega)⟩ (fun N2 rec2 hI2 => ?_) (fun i N2 rec2 hi hI2 hr2 => ?_)
    · obtain ⟨hE2, hF2⟩ := hI2
      refine So.ite (fun _ => ?_) (fun h => absurd (Int32.le_refl _) h)
      refine So_wl2 (fun s v => ∃ j, j ≤ k ∧ v = Int32.ofNat j ∧ s = Int64.ofNat (fwS m n j)) (fun _ v => k - ix v) ?_ fuel 0 0 ⟨0, by omega, rfl, rfl⟩ (by rw [show (0 : Int32) = Int32.ofNat 0 from rfl, nn_ix (by omega)]; unfold fuel; omega)
      rintro s v rec3 ⟨j, hj, rfl, rfl⟩ hr3
      refine So.ite (fun h => So.ok ?_) (fun h => So_gd ?_ (So_nm (So_nm ?_)))
      · rw [nn_le (by omega) (by omega)] at h
        obtain rfl : j = k := by omega
        exact ⟨rfl, hE2⟩
      · exact inb_nn (by rw [nn_le (by omega) (by omega)] at h; omega) (by decide)
      · rw [nn_le (by omega) (by omega)] at h
        rw [s1, nn_ix (by omega), hF2 j (by omega), jn_add]
        refine hr3 _ _ ⟨j + 1, by omega, rfl, rfl⟩ ?_
        rw [nn_ix (by omega), nn_ix (by omega)]; omega
    · obtain ⟨hE2, hF2⟩ := hI2
      refine So.ite (fun h => absurd h ?_) (fun _ => So_nm ?_)
      · rw [nn_le (by omega) (by omega)]; omega
      have e9 : Int32.ofNat k - 1 = Int32.ofNat (k - 1) := nn_sub (b := 1) hk.1 (by omega)
      rw [e9]
      -- above place j the new parts stand, at place j itself what stays of it
      refine So_wl2 (fun v N3 => ∃ j, j ≤ k ∧ v = Int32.ofInt ((j : Int) - 1) ∧ Eo (fun q => q = u + 38) M1 N3 ∧ (∀ q, q < j → mJ N3 (u + 38) q = Int64.ofNat (fwF m i q)) ∧ (j < k → mJ N3 (u + 38) j = Int64.ofNat (fwF m i j * (10 - m) / 10)) ∧ ∀ q, j < q → q < k → mJ N3 (u + 38) q = Int64.ofNat (fwF m (i + 1) q)) (fun v _ => (v.toInt + 1).toNat) ?_ fuel _ _ ⟨k, Nat.le_refl _, ?_, hE2, hF2, fun h => absurd h (by omega), fun q h1 h2 => absurd h1 (by omega)⟩ ?_
      · rintro v N3 rec3 ⟨j, hj, rfl, hE3, hF3, hJ3, hG3⟩ hr3
        have hv : (Int32.ofInt ((j : Int) - 1)).toInt = (j : Int) - 1 := Int32.toInt_ofInt_of_le (by omega) (by omega)
        refine So.ite (fun h => So_nm ?_) (fun h => ?_)
        · rw [Int32.lt_iff_toInt_lt, hv, show (0 : Int32).toInt = 0 from rfl] at h
          obtain rfl : j = 0 := by omega
          refine hr2 N3 ⟨hE3, fun q hq => ?_⟩
          by_cases hq0 : q = 0
          · subst hq0
            rw [hJ3 hq]
            unfold fwF
            rw [if_pos rfl, Nat.add_zero]
            cases i <;> rfl
          · exact hG3 q (by omega) hq
        · rw [Int32.lt_iff_toInt_lt, hv, show (0 : Int32).toInt = 0 from rfl] at h
          obtain ⟨j, rfl⟩ : ∃ i, j = i + 1 := ⟨j - 1, by omega⟩
          have hv2 : Int32.ofInt (((j + 1 : Nat) : Int) - 1) = Int32.ofNat j := by
            apply Int32.toInt_inj.mp
            rw [hv, nn_int (by omega)]; omega
          rw [hv2]
          refine So_gd (inb_nn (by omega) (by decide)) (So_nm (So_gd (inb_nn (by omega) (by decide)) (So_nm ?_)))
          rw [s1]
          refine So_gd (inb_nn (by omega) (by decide)) (So_gd (inb_nn (by omega) (by decide)) (So_nm (So_nm ?_)))
          rw [nn_ix (by omega), nn_ix (by omega), hF3 j (by omega), show (10 : Int32) - Int32.ofNat m = Int32.ofNat (10 - m) from nn_sub hm (by decide), fw_part (fwF_le hm i j) (by omega), fw_part (fwF_le hm i j) hm]
          have hv3 : Int32.ofNat j + (-1) = Int32.ofInt ((j : Int) - 1) := by
            apply Int32.toInt_inj.mp
            rw [i_add, nn_int (by omega), Int32.toInt_ofInt_of_le (by omega) (by omega)]
            · rfl
            · rw [nn_int (by omega), show (-1 : Int32).toInt = -1 from rfl]; omega
            · rw [nn_int (by omega), show (-1 : Int32).toInt = -1 from rfl]; omega
          rw [hv3]
          refine hr3 _ _ ⟨j, by omega, rfl, (hE3.tr (Eo_sJ rfl)).tr (Eo_sJ rfl), fun q hq => ?_, fun _ => ?_, fun q h1 h2 => ?_⟩ ?_
          · rw [mJ_sJ, if_neg (by omega), mJ_sJ, if_neg (by omega)]
            exact hF3 q (by omega)
          · rw [mJ_sJ, if_neg (by omega), mJ_sJ, if_pos ⟨rfl, rfl⟩]
          · by_cases hq : q = j + 1
            · subst hq
              rw [mJ_sJ, if_pos ⟨rfl, rfl⟩, mJ_sJ, if_neg (by omega), hJ3 h2, jn_add]
              refine congrArg Int64.ofNat ?_
              show _ = fwF m i (j + 1) * (10 - m) / 10 + (if j + 1 = 0 then 0 else fwF m i (j + 1 - 1) * m / 10)
              rw [if_neg (by omega), Nat.add_sub_cancel]
            · rw [mJ_sJ, if_neg (by omega), mJ_sJ, if_neg (by omega)]
              exact hG3 q (by omega) h2
          · rw [Int32.toInt_ofInt_of_le (by omega) (by omega), hv]; omega
      · apply Int32.toInt_inj.mp
        rw [nn_int (by omega), Int32.toInt_ofInt_of_le (by omega) (by omega)]; omega
      · rw [nn_int (by omega)]; unfold fuel; omega
  · obtain ⟨hE, hF⟩ := hI
    refine So.ite (fun h => absurd h ?_) (fun _ => So_jn1 ?_)
    · rw [show (21 : Int32) = Int32.ofNat 21 from rfl, nn_le (by omega) (by omega)]; omega
    have fin : ∀ w : Int64, w = Int64.ofNat (fwF m 0 i) → So (gd (inb (Int32.ofNat i) 21) (nm (sJ N (u + 38) (ix (Int32.ofNat i)) w) fun M45 => nm (Int32.ofNat i + 1) fun v47 => rec v47 M45)) (fun r => r.1 = Int64.ofNat (fwS m n k) ∧ Eo (fun q => q = u + 38) M1 r.2) := by
      rintro w rfl
      refine So_gd (inb_nn (by omega) (by decide)) (So_nm (So_nm (hr _ ⟨hE.tr (Eo_sJ rfl), fun j hj => ?_⟩)))
      rw [mJ_sJ, nn_ix (by omega)]
      by_cases hji : j = i
      · subst hji; rw [if_pos ⟨rfl, rfl⟩]
      · rw [if_neg (fun z => hji z.2)]; exact hF j (by omega)
    refine So.ite (fun h => fin _ ?_) (fun h => fin _ ?_)
    · rw [show (0 : Int32) = Int32.ofNat 0 from rfl, nn_eq (by omega) (by omega)] at h
      unfold fwF; rw [if_neg h]; rfl
    · rw [show (0 : Int32) = Int32.ofNat 0 from rfl, nn_eq (by omega) (by omega)] at h
      unfold fwF; rw [if_pos (Classical.not_not.mp h)]; rfl
