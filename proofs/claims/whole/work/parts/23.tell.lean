/-! ===== answers that are told ===== -/
theorem rf_list : ∀ i, i < 5 → ∀ j, j < 5 → (([-1, -2, -3, -5, -6] : List Int32).getD i 0 = ([-1, -2, -3, -5, -6] : List Int32).getD j 0 ↔ i = j) := by decide
theorem refuse_eq {t j : Nat} {c : Int32} {M : Mem} (hj : j < 5) (hc : ([-1, -2, -3, -5, -6] : List Int32).getD j 0 = c) : FX11_refuse t c M = some (c, sI (sI M t 16 c) (t + 275) j (mI M (t + 275) j + 1)) := by
  apply So.eq
  unfold FX11_refuse
  refine So_nm ?_
  have e0 : mI (sI M t 16 c) (t + 275) j = mI M (t + 275) j := by rw [mI_sI, if_neg (by omega)]
  generalize sI M t 16 c = M1 at e0 ⊢
  refine loop_for 5 (by decide) (fun i N => N = if j < i then sI M1 (t + 275) j (mI M (t + 275) j + 1) else M1) M1 (by rw [if_neg (by omega)]) (fun N rec hI => ?_) (fun i N rec hi hI hr => ?_)
  · rw [if_pos hj] at hI
    exact So.ite (fun _ => So.ok (by rw [hI])) (fun h => absurd h (ge_self 5))
  · refine So.ite (fun h => absurd h (nle hi (by decide))) (fun _ => So_gd (inb_nn hi (by decide)) (So_jn1 ?_))
    rw [nn_ix (by omega)]
    refine So.ite (fun h => So_nm (hr _ ?_)) (fun h => So_gd (inb_nn hi (by decide)) (So_gd (inb_nn hi (by decide)) (So_nm (So_nm (hr _ ?_)))))
    · have hij : i ≠ j := fun e => h (by rw [e]; exact hc)
      rw [hI]
      by_cases h1 : j < i
      · rw [if_pos h1, if_pos (by omega)]
      · rw [if_neg h1, if_neg (by omega)]
    · have hij : i = j := (rf_list i hi j hj).mp ((Classical.not_not.mp h).trans hc.symm)
      subst hij
      rw [if_neg (by omega)] at hI
      rw [hI, if_pos (by omega), e0]
theorem grant_eq (t : Nat) (v : Int32) (M : Mem) : FX11_grant t v M = some (v, sI M t 16 0) := rfl
theorem tell_pos {u : Nat} {v : Int32} {M : Mem} (h : 0 ≤ v.toInt) : FX12_tell u v M = some (v, sI M u 1 0) := by
  have h0 : (0 : Int32) ≤ v := by rw [Int32.le_iff_toInt_le]; exact h
  show (if (0 : Int32) ≤ v then (if (0 : Int32) ≤ v then some (v, sI M u 1 0) else _) else _) = _
  rw [if_pos h0, if_pos h0]
theorem tell_neg {u k : Nat} {c : Int32} {M : Mem} (hk : 1 ≤ k ∧ k < 7) (hc : -c = Int32.ofNat k) (hn : c.toInt < 0) : FX12_tell u c M = some (c, sI (sI M u 1 c) (u + 1) k (mI M (u + 1) k + 1)) := by
  have h0 : ¬ (0 : Int32) ≤ c := by rw [Int32.le_iff_toInt_le, show (0 : Int32).toInt = 0 from rfl]; omega
  show (if (0 : Int32) ≤ c then _ else (if (0 : Int32) ≤ c then _ else gd (inb (-c) 7) (gd (inb (-c) 7) (some (c, sI (sI M u 1 c) (u + 1) (ix (-c)) ((mI (sI M u 1 c) (u + 1) (ix (-c))) + 1)))))) = _
  rw [if_neg h0, if_neg h0, hc, nn_ix (by omega)]
  have hb := inb_nn (a := k) (n := 7) (by omega) (by decide)
  unfold gd
  rw [if_pos hb, if_pos hb, mI_sI, if_neg (by omega)]
/-! ===== images of the reference ===== -/
theorem imgC_so {u k : Nat} {M : Mem} {τ : Type} {Q : τ → Prop} {K : Mem → Option τ} (hk : k < 2) (hQ : ∀ N, Eo (fun q => q = u + 3) M N → (∀ j, j < 5594 → mI N (u + 3) (5594 * k + j) = mI M (u + 2) j) → (∀ j, (j < 5594 * k ∨ 5594 * k + 5594 ≤ j) → mI N (u + 3) j = mI M (u + 3) j) → So (K N) Q) : So (wl2 (fun (v3 : Int32) (M4 : Mem) rec5 => if 5594 ≤ v3 then K M4 else gd (inb v3 5594) <| gd (inb ((5594 * Int32.ofNat k) + v3) 11188) <| nm (sI M4 (u + 3) (ix ((5594 * Int32.ofNat k) + v3)) (mI M4 (u + 2) (ix v3))) fun M15 => nm (v3 + 1) fun v17 => rec5 v17 M15) fuel 0 M) Q := by
  refine loop_for 5594 (by decide) (fun n N => Eo (fun q => q = u + 3) M N ∧ (∀ j, j < n → mI N (u + 3) (5594 * k + j) = mI M (u + 2) j) ∧ ∀ j, (j < 5594 * k ∨ 5594 * k + 5594 ≤ j) → mI N (u + 3) j = mI M (u + 3) j) M ⟨Eo.rf, fun j hj => absurd hj (by omega), fun j _ => rfl⟩ (fun N rec hI => ?_) (fun n N rec hn hI hr => ?_)
  · exact So.ite (fun _ => hQ N hI.1 hI.2.1 hI.2.2) (fun h => absurd h (ge_self 5594))
  · obtain ⟨hE, h1, h2⟩ := hI
    have e2 : (5594 : Int32) * Int32.ofNat k + Int32.ofNat n = Int32.ofNat (5594 * k + n) := by
      rw [show (5594 : Int32) * Int32.ofNat k = Int32.ofNat (5594 * k) from nn_mul 5594 k, nn_add]
    refine So.ite (fun h => absurd h (nle hn (by decide))) (fun _ => So_gd (inb_nn hn (by decide)) (So_gd (by rw [e2]; exact inb_nn (by omega) (by decide)) (So_nm (So_nm (hr _ ?_)))))
    rw [e2, nn_ix (by omega), nn_ix (by omega)]
    refine ⟨hE.tr (Eo_sI rfl), fun j hj => ?_, fun j hj => ?_⟩
    · rw [mI_sI]
      by_cases hjn : j = n
      · subst hjn
        rw [if_pos ⟨rfl, rfl⟩, (hE (u + 2) (by omega)).1]
      · rw [if_neg (by omega)]; exact h1 j (by omega)
    · rw [mI_sI, if_neg (by omega)]; exact h2 j hj
theorem imgB_so {u k : Nat} {M : Mem} {τ : Type} {Q : τ → Prop} {K : Mem → Option τ} (hk : k < 2) (hQ : ∀ N, Eo (fun q => q = u + 2) M N → (∀ j, j < 5594 → mI N (u + 2) j = mI M (u + 3) (5594 * k + j)) → So (K N) Q) : So (wl2 (fun (v5 : Int32) (M6 : Mem) rec7 => if 5594 ≤ v5 then K M6 else gd (inb ((5594 * Int32.ofNat k) + v5) 11188) <| gd (inb v5 5594) <| nm (sI M6 (u + 2) (ix v5) (mI M6 (u + 3) (ix ((5594 * Int32.ofNat k) + v5)))) fun M14 => nm (v5 + 1) fun v16 => rec7 v16 M14) fuel 0 M) Q := by
  refine loop_for 5594 (by decide) (fun n N => Eo (fun q => q = u + 2) M N ∧ (∀ j, j < n → mI N (u + 2) j = mI M (u + 3) (5594 * k + j))) M ⟨Eo.rf, fun j hj => absurd hj (by omega)⟩ (fun N rec hI => ?_) (fun n N rec hn hI hr => ?_)
  · exact So.ite (fun _ => hQ N hI.1 hI.2) (fun h => absurd h (ge_self 5594))
  · obtain ⟨hE, h1⟩ := hI
    have e2 : (5594 : Int32) * Int32.ofNat k + Int32.ofNat n = Int32.ofNat (5594 * k + n) := by
      rw [show (5594 : Int32) * Int32.ofNat k = Int32.ofNat (5594 * k) from nn_mul 5594 k, nn_add]
    refine So.ite (fun h => absurd h (nle hn (by decide))) (fun _ => So_gd (by rw [e2]; exact inb_nn (by omega) (by decide)) (So_gd (inb_nn hn (by decide)) (So_nm (So_nm (hr _ ?_)))))
    rw [e2, nn_ix (by omega), nn_ix (by omega)]
    refine ⟨hE.tr (Eo_sI rfl), fun j hj => ?_⟩
    rw [mI_sI]
    by_cases hjn : j = n
    · subst hjn
      rw [if_pos ⟨rfl, rfl⟩, (hE (u + 3) (by omega)).1]
    · rw [if_neg (by omega)]; exact h1 j (by omega)
