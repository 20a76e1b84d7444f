/-! ===== the class's history ===== -/
theorem nn_div {a b : Nat} (ha : a < 2147483648) (hb : 0 < b ∧ b < 2147483648) : Int32.ofNat a / Int32.ofNat b = Int32.ofNat (a / b) := by
  have h1 : a / b ≤ a := Nat.div_le_self a b
  apply Int32.toInt_inj.mp
  rw [i_div, nn_int ha, nn_int hb.2, nn_int (by omega), ← Int.ofNat_tdiv]
  intro e
  have := congrArg Int32.toInt e
  rw [nn_int hb.2, show (-1 : Int32).toInt = -1 from rfl] at this
  omega
theorem nn_rem {a b : Nat} (ha : a < 2147483648) (hb : 0 < b ∧ b < 2147483648) : irm (Int32.ofNat a) (Int32.ofNat b) = Int32.ofNat (a % b) := by
  unfold irm
  have h1 : a / b * b ≤ a := Nat.div_mul_le_self a b
  rw [nn_div ha hb, nn_mul, nn_sub h1 ha]
  congr 1
  rw [Nat.mod_eq_sub_div_mul]
def hT (h i : Nat) : Nat := h + 3 + 4 * i
theorem push_so {h p n f : Nat} {M : Mem} {r : Nat → Int32} {kd : Int32} (hp : p + 4 ≤ h ∨ h + 67 ≤ p) (hT0 : TR M p r) (hn : n ≤ 16) (hf : f < 16) (hF : mI M h 2 = Int32.ofNat f) (hN : mI M h 3 = Int32.ofNat n) : So (FX4_push h p kd M) (fun N => Eo (fun q => h ≤ q ∧ q < h + 67) M N ∧ mI N h 2 = Int32.ofNat (if n = 16 then (f + 1) % 16 else f) ∧ mI N h 3 = Int32.ofNat ((if n = 16 then 15 else n) + 1) ∧ TR N (hT h (((if n = 16 then (f + 1) % 16 else f) + (if n = 16 then 15 else n)) % 16)) r ∧ mI N (h + 2) (((if n = 16 then (f + 1) % 16 else f) + (if n = 16 then 15 else n)) % 16) = kd ∧
    ∀ i, i < 16 → i ≠ ((if n = 16 then (f + 1) % 16 else f) + (if n = 16 then 15 else n)) % 16 → (∀ j, j < 4 → Ea M N (hT h i + j)) ∧ mI N (h + 2) i = mI M (h + 2) i) := by
  have tail : ∀ (N0 : Mem) (f' n' : Nat), f' < 16 → n' ≤ 15 → TR N0 p r → mI N0 h 2 = Int32.ofNat f' → mI N0 h 3 = Int32.ofNat n' → So (nm (irm ((mI N0 h 2) + (mI N0 h 3)) 16) fun v4 => gd (inb v4 16) <| (FX8_copyFrom ((h + 1) + 2 + 4 * (ix v4)) p N0).bind fun M8 => gd (inb v4 16) <| nm (sI M8 (h + 2) (ix v4) kd) fun M10 => nm (sI M10 h 3 ((mI M10 h 3) + 1)) fun M12 => some M12) (fun N => Eo (fun q => h ≤ q ∧ q < h + 67) N0 N ∧ mI N h 2 = Int32.ofNat f' ∧ mI N h 3 = Int32.ofNat (n' + 1) ∧ TR N (hT h ((f' + n') % 16)) r ∧ mI N (h + 2) ((f' + n') % 16) = kd ∧ ∀ i, i < 16 → i ≠ (f' + n') % 16 → (∀ j, j < 4 → Ea N0 N (hT h i + j)) ∧ mI N (h + 2) i = mI N0 (h + 2) i) := by
    intro N0 f' n' hf' hn' hTR h2 h3
    have hv : irm ((mI N0 h 2) + (mI N0 h 3)) 16 = Int32.ofNat ((f' + n') % 16) := by
      rw [h2, h3, nn_add]
      exact nn_rem (b := 16) (by omega) (by omega)
    have hlt : (f' + n') % 16 < 16 := Nat.mod_lt _ (by decide)
    refine So_nm ?_
    rw [hv]
    generalize (f' + n') % 16 = v at hlt
    refine So_gd (inb_nn hlt (by decide)) ?_
    rw [nn_ix (by omega), show (h + 1) + 2 + 4 * v = hT h v by unfold hT; omega]
    refine So.bind (copyT (by unfold hT; omega) hTR) (fun M8 hM8 => ?_)
    obtain ⟨hT8, hE8⟩ := hM8
    refine So_gd (inb_nn hlt (by decide)) (So_nm (So_nm (So.ok ?_)))
    have e3 : mI (sI M8 (h + 2) v kd) h 3 = Int32.ofNat n' := by
      rw [mI_sI, if_neg (by omega), (hE8 h (by unfold hT; omega)).1]; exact h3
    rw [e3, s1]
    have hE2 : Eo (fun q => h ≤ q ∧ q < h + 67) N0 M8 := hE8.up (fun a ha => by unfold hT at ha; omega)
    refine ⟨(hE2.tr (Eo_sI (by omega))).tr (Eo_sI (by omega)), ?_, ?_, ?_, ?_, fun i hi hne => ⟨fun j hj => ?_, ?_⟩⟩
    · rw [mI_sI, if_neg (by omega), mI_sI, if_neg (by omega), (hE8 h (by unfold hT; omega)).1]; exact h2
    · rw [mI_sI, if_pos ⟨rfl, rfl⟩]
    · refine hT8.keep ?_ ?_ ?_ ?_ <;> exact (Ea_sI (by unfold hT; omega)).tr (Ea_sI (by unfold hT; omega))
    · rw [mI_sI, if_neg (by omega), mI_sI, if_pos ⟨rfl, rfl⟩]
    · exact ((hE8 _ (by unfold hT; omega)).tr (Ea_sI (by unfold hT; omega))).tr (Ea_sI (by unfold hT; omega))
    · rw [mI_sI, if_neg (by omega), mI_sI, if_neg (fun z => hne z.2), (hE8 (h + 2) (by unfold hT; omega)).1]
  unfold FX4_push
  refine So_jn1 ?_
  refine So.ite (fun hc => ?_) (fun hc => ?_)
  · have hn2 : n ≠ 16 := fun e => hc (by rw [hN, e]; rfl)
    rw [if_neg hn2, if_neg hn2]
    exact tail M f n hf (by omega) hT0 hF hN
  · have hn2 : n = 16 := by
      have hc := Classical.not_not.mp hc
      rw [hN, show (16 : Int32) = Int32.ofNat 16 from rfl, nn_eq (by omega) (by omega)] at hc
      exact hc
    subst hn2
    rw [if_pos rfl, if_pos rfl]
    refine So_nm (So_nm ?_)
    have e1 : irm (mI M h 2 + 1) 16 = Int32.ofNat ((f + 1) % 16) := by
      rw [hF, s1]
      exact nn_rem (b := 16) (by omega) (by omega)
    rw [e1]
    have e2 : mI (sI M h 2 (Int32.ofNat ((f + 1) % 16))) h 3 - 1 = Int32.ofNat 15 := by
      rw [mI_sI, if_neg (by omega), hN]; rfl
    rw [e2]
    have hlt : (f + 1) % 16 < 16 := Nat.mod_lt _ (by decide)
    generalize (f + 1) % 16 = g at hlt
    refine (tail (sI (sI M h 2 (Int32.ofNat g)) h 3 (Int32.ofNat 15)) g 15 hlt (by omega) ?_ ?_ ?_).mono (fun N hN2 => ?_)
    · refine hT0.keep ?_ ?_ ?_ ?_ <;> exact (Ea_sI (by omega)).tr (Ea_sI (by omega))
    · rw [mI_sI, if_neg (by omega), mI_sI, if_pos ⟨rfl, rfl⟩]
    · rw [mI_sI, if_pos ⟨rfl, rfl⟩]
    · obtain ⟨a1, a2, a3, a4, a5, a6⟩ := hN2
      refine ⟨((Eo_sI (by omega)).tr (Eo_sI (by omega))).tr a1, a2, a3, a4, a5, fun i hi hne => ?_⟩
      obtain ⟨b1, b2⟩ := a6 i hi hne
      refine ⟨fun j hj => ((Ea_sI (by unfold hT; omega)).tr (Ea_sI (by unfold hT; omega))).tr (b1 j hj), ?_⟩
      rw [b2, mI_sI, if_neg (by omega), mI_sI, if_neg (by omega)]
theorem pop_so {h p n f : Nat} {M : Mem} {r : Nat → Int32} (hp : p + 4 ≤ h ∨ h + 67 ≤ p) (hn : 1 ≤ n ∧ n ≤ 16) (hf : f < 16) (hF : mI M h 2 = Int32.ofNat f) (hN : mI M h 3 = Int32.ofNat n) (hT0 : TR M (hT h ((f + (n - 1)) % 16)) r) : So (FX4_pop h p M) (fun q => q.1 = mI M (h + 2) ((f + (n - 1)) % 16) ∧ Eo (fun a => a = h ∨ (p ≤ a ∧ a < p + 4)) M q.2 ∧ TR q.2 p r ∧ mI q.2 h 2 = Int32.ofNat f ∧ mI q.2 h 3 = Int32.ofNat (n - 1)) := by
  unfold FX4_pop
  refine So.ite (fun _ => So_nm (So_nm ?_)) (fun hc => absurd ?_ hc)
  · have e1 : mI M h 3 - 1 = Int32.ofNat (n - 1) := by rw [hN]; exact nn_sub (b := 1) hn.1 (by omega)
    rw [e1]
    have e2 : irm (mI (sI M h 3 (Int32.ofNat (n - 1))) h 2 + mI (sI M h 3 (Int32.ofNat (n - 1))) h 3) 16 = Int32.ofNat ((f + (n - 1)) % 16) := by
      rw [mI_sI, if_neg (by omega), mI_sI, if_pos ⟨rfl, rfl⟩, hF, nn_add]
      exact nn_rem (b := 16) (by omega) (by omega)
    rw [e2]
    have hlt : (f + (n - 1)) % 16 < 16 := Nat.mod_lt _ (by decide)
    generalize (f + (n - 1)) % 16 = v at hlt hT0
    refine So_gd (inb_nn hlt (by decide)) ?_
    rw [nn_ix (by omega), show (h + 1) + 2 + 4 * v = hT h v by unfold hT; omega]
    refine So.bind (copyT (r := r) (by unfold hT; omega) ?_) (fun N hN2 => ?_)
    · refine hT0.keep ?_ ?_ ?_ ?_ <;> exact Ea_sI (by unfold hT; omega)
    · obtain ⟨k1, k2⟩ := hN2
      refine So_gd (inb_nn hlt (by decide)) (So.ok ⟨?_, ?_, k1, ?_, ?_⟩)
      · show mI N (h + 2) v = _
        rw [(k2 (h + 2) (by omega)).1, mI_sI, if_neg (by omega)]
      · exact (Eo_sI (Or.inl rfl)).tr (k2.up (fun a ha => Or.inr ha))
      · show mI N h 2 = _
        rw [(k2 h (by omega)).1, mI_sI, if_neg (by omega), hF]
      · show mI N h 3 = _
        rw [(k2 h (by omega)).1, mI_sI, if_pos ⟨rfl, rfl⟩]
  · rw [hN, show (0 : Int32) = Int32.ofNat 0 from rfl, nn_eq (by omega) (by omega)]; omega
