/-! ===== the tape ===== -/
def by4 (p : Int32) (i : Nat) : Int32 := (p >>> (Int32.ofInt (24 - 8 * (i : Int)) &&& 31)) &&& 255
theorem and255 (x : Int32) : ∃ n, n < 256 ∧ x &&& 255 = Int32.ofNat n := by
  refine ⟨x.toBitVec.toNat % 256, Nat.mod_lt _ (by decide), ?_⟩
  apply Int32.toBitVec_inj.mp
  apply BitVec.eq_of_toNat_eq
  rw [Int32.toBitVec_and, BitVec.toNat_and, show (255 : Int32).toBitVec.toNat = 2 ^ 8 - 1 from rfl, Nat.and_two_pow_sub_one_eq_mod]
  show _ = (BitVec.ofNat 32 (x.toBitVec.toNat % 256)).toNat
  rw [BitVec.toNat_ofNat]
  omega
theorem by4_byte (p : Int32) (i : Nat) : ∃ n, n < 256 ∧ by4 p i = Int32.ofNat n := and255 _
theorem shf {i : Nat} (h : i ≤ 4) : (Int32.ofInt (24 - 8 * (i : Int))).toInt = 24 - 8 * (i : Int) := Int32.toInt_ofInt_of_le (by omega) (by omega)
theorem shf_s {i : Nat} (h : i < 4) : Int32.ofInt (24 - 8 * (i : Int)) + (-8) = Int32.ofInt (24 - 8 * ((i + 1 : Nat) : Int)) := by
  apply Int32.toInt_inj.mp
  have e : (-8 : Int32).toInt = -8 := rfl
  rw [i_add, shf (by omega), shf (by omega), e]
  · omega
  · rw [shf (by omega), e]; omega
  · rw [shf (by omega), e]; omega
theorem append_so {h L : Nat} {p : Int32} {M : Mem} (hL : L + 4 ≤ 400) (h2 : mI M h 2 = Int32.ofNat L) : So (FX5_append h p M) (fun N => Eo (fun q => q = h ∨ q = h + 1) M N ∧ mI N h 2 = Int32.ofNat (L + 4) ∧ (∀ k, k ≠ 2 → mI N h k = mI M h k) ∧ mJ N h = mJ M h ∧ mR N h = mR M h ∧ (∀ i, i < 4 → mI N (h + 1) (L + i) = by4 p i) ∧ ∀ k, (k < L ∨ L + 4 ≤ k) → mI N (h + 1) k = mI M (h + 1) k) := by
  unfold FX5_append
  refine So_wl2 (fun v N => ∃ i : Nat, i ≤ 4 ∧ v = Int32.ofInt (24 - 8 * (i : Int)) ∧ Eo (fun q => q = h ∨ q = h + 1) M N ∧ mI N h 2 = Int32.ofNat (L + i) ∧ (∀ k, k ≠ 2 → mI N h k = mI M h k) ∧ mJ N h = mJ M h ∧ mR N h = mR M h ∧ (∀ q, q < i → mI N (h + 1) (L + q) = by4 p q) ∧ ∀ k, (k < L ∨ L + 4 ≤ k) → mI N (h + 1) k = mI M (h + 1) k) (fun v _ => (v.toInt + 8).toNat) ?_ fuel 24 M ⟨0, by omega, rfl, Eo.rf, h2, fun _ _ => rfl, rfl, rfl, fun q hq => absurd hq (by omega), fun _ _ => rfl⟩ (by decide)
  rintro v N rec ⟨i, hi, rfl, hE, g2, g3, g4, g5, g6, g7⟩ hr
  refine So_jn0 ?_
  refine So.ite (fun hc => So.ok ?_) (fun hc => ?_)
  · rw [Int32.lt_iff_toInt_lt, shf hi, show (0 : Int32).toInt = 0 from rfl] at hc
    obtain rfl : i = 4 := by omega
    exact ⟨hE, g2, g3, g4, g5, g6, g7⟩
  · rw [Int32.lt_iff_toInt_lt, shf hi, show (0 : Int32).toInt = 0 from rfl] at hc
    have hi4 : i < 4 := by omega
    rw [g2]
    refine So.ite (fun hc2 => absurd hc2 (nle (show L + i < 400 by omega) (by decide))) (fun _ => So_gd (inb_nn (by omega) (by decide)) (So_nm (So_nm (So_nm ?_))))
    rw [nn_ix (by omega)]
    have e2 : mI (sI N (h + 1) (L + i) ((p >>> (Int32.ofInt (24 - 8 * (i : Int)) &&& 31)) &&& 255)) h 2 = Int32.ofNat (L + i) := by rw [mI_sI, if_neg (by omega), g2]
    rw [e2, s1, shf_s hi4]
    refine hr _ _ ⟨i + 1, by omega, rfl, (hE.tr (Eo_sI (Or.inr rfl))).tr (Eo_sI (Or.inl rfl)), ?_, fun k hk => ?_, g4, g5, fun q hq => ?_, fun k hk => ?_⟩ ?_
    · rw [mI_sI, if_pos ⟨rfl, rfl⟩]; rfl
    · rw [mI_sI, if_neg (fun z => hk z.2), mI_sI, if_neg (by omega)]; exact g3 k hk
    · rw [mI_sI, if_neg (by omega), mI_sI]
      by_cases hqi : q = i
      · subst hqi; rw [if_pos ⟨rfl, rfl⟩]; rfl
      · rw [if_neg (by omega)]; exact g6 q (by omega)
    · rw [mI_sI, if_neg (by omega), mI_sI, if_neg (by omega)]; exact g7 k hk
    · rw [shf (by omega), shf (by omega)]; omega
theorem four_so {u L : Nat} {p : Int32} {M : Mem} (hL : L + 4 ≤ 400) (h2 : mI M u 13 = Int32.ofNat L) : So (FX12_four u p M) (fun N => Eo (fun q => q = u ∨ q = u + 9) M N ∧ mI N u 13 = Int32.ofNat (L + 4) ∧ (∀ k, k ≠ 13 → mI N u k = mI M u k) ∧ mJ N u = mJ M u ∧ mR N u = mR M u ∧ (∀ i, i < 4 → mI N (u + 9) (L + i) = by4 p i) ∧ ∀ k, (k < L ∨ L + 4 ≤ k) → mI N (u + 9) k = mI M (u + 9) k) := by
  unfold FX12_four
  refine So_wl2 (fun v N => ∃ i : Nat, i ≤ 4 ∧ v = Int32.ofInt (24 - 8 * (i : Int)) ∧ Eo (fun q => q = u ∨ q = u + 9) M N ∧ mI N u 13 = Int32.ofNat (L + i) ∧ (∀ k, k ≠ 13 → mI N u k = mI M u k) ∧ mJ N u = mJ M u ∧ mR N u = mR M u ∧ (∀ q, q < i → mI N (u + 9) (L + q) = by4 p q) ∧ ∀ k, (k < L ∨ L + 4 ≤ k) → mI N (u + 9) k = mI M (u + 9) k) (fun v _ => (v.toInt + 8).toNat) ?_ fuel 24 M ⟨0, by omega, rfl, Eo.rf, h2, fun _ _ => rfl, rfl, rfl, fun q hq => absurd hq (by omega), fun _ _ => rfl⟩ (by decide)
  rintro v N rec ⟨i, hi, rfl, hE, g2, g3, g4, g5, g6, g7⟩ hr
  refine So.ite (fun hc => So.ok ?_) (fun hc => ?_)
  · rw [Int32.lt_iff_toInt_lt, shf hi, show (0 : Int32).toInt = 0 from rfl] at hc
    obtain rfl : i = 4 := by omega
    exact ⟨hE, g2, g3, g4, g5, g6, g7⟩
  · rw [Int32.lt_iff_toInt_lt, shf hi, show (0 : Int32).toInt = 0 from rfl] at hc
    have hi4 : i < 4 := by omega
    rw [g2]
    refine So_gd (inb_nn (show L + i < 400 by omega) (by decide)) (So_nm (So_nm (So_nm ?_)))
    rw [nn_ix (by omega)]
    have e2 : mI (sI N (u + 9) (L + i) ((p >>> (Int32.ofInt (24 - 8 * (i : Int)) &&& 31)) &&& 255)) u 13 = Int32.ofNat (L + i) := by rw [mI_sI, if_neg (by omega), g2]
    rw [e2, s1, shf_s hi4]
    refine hr _ _ ⟨i + 1, by omega, rfl, (hE.tr (Eo_sI (Or.inr rfl))).tr (Eo_sI (Or.inl rfl)), ?_, fun k hk => ?_, g4, g5, fun q hq => ?_, fun k hk => ?_⟩ ?_
    · rw [mI_sI, if_pos ⟨rfl, rfl⟩]; rfl
    · rw [mI_sI, if_neg (fun z => hk z.2), mI_sI, if_neg (by omega)]; exact g3 k hk
    · rw [mI_sI, if_neg (by omega), mI_sI]
      by_cases hqi : q = i
      · subst hqi; rw [if_pos ⟨rfl, rfl⟩]; rfl
      · rw [if_neg (by omega)]; exact g6 q (by omega)
    · rw [mI_sI, if_neg (by omega), mI_sI, if_neg (by omega)]; exact g7 k hk
    · rw [shf (by omega), shf (by omega)]; omega
