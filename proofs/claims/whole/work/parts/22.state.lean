/-! ===== a State is copied ===== -/
theorem copyS {b p : Nat} {M : Mem} {r : Nat → Int32} (h : p + 9 ≤ b ∨ b + 9 ≤ p) (hT0 : TR M (p + 1) r) : So (FX6_copyFrom b p M) (fun N => Eo (fun q => b ≤ q ∧ q < b + 9) M N ∧ TR N (b + 1) r ∧ mJ N b 5 = mJ M p 5 ∧ mI N b 6 = mI M p 6 ∧ mI N b 7 = mI M p 7 ∧ mI N b 8 = mI M p 8 ∧ mI N b 9 = mI M b 9 ∧ (∀ k, k < 6 → mI N (b + 5) k = mI M (p + 5) k ∧ mI N (b + 6) k = mI M (p + 6) k ∧ mR N (b + 7) k = mR M (p + 7) k) ∧ ∀ k, k < 3 → mI N (b + 8) k = mI M (p + 8) k) := by
  unfold FX6_copyFrom
  refine So.bind (copyT (r := r) (by omega) hT0) (fun M3 hM3 => ?_)
  obtain ⟨t3, e3⟩ := hM3
  refine So_nm (So_nm (So_nm ?_))
  -- the three rows of ints
  generalize hM6 : aI M3 (b + 5) (va_cpy (mI M3 (p + 5)) (mI M3 (b + 5)) 0 0 6) = M6
  generalize hM9 : aI M6 (b + 6) (va_cpy (mI M6 (p + 6)) (mI M6 (b + 6)) 0 0 6) = M9
  generalize hM13 : aI M9 (b + 8) (va_cpy (mI M9 (p + 8)) (mI M9 (b + 8)) 0 0 3) = M13
  have e6 : Eo (fun q => q = b + 5) M3 M6 := by rw [← hM6]; exact Eo_aI rfl
  have e9 : Eo (fun q => q = b + 6) M6 M9 := by rw [← hM9]; exact Eo_aI rfl
  have e13 : Eo (fun q => q = b + 8) M9 M13 := by rw [← hM13]; exact Eo_aI rfl
  have ea : ∀ q, (q < b + 1 ∨ b + 5 ≤ q) → q ≠ b + 5 → q ≠ b + 6 → q ≠ b + 8 → Ea M M13 q := fun q h1 h2 h3 h4 => (((e3 q (by omega)).tr (e6 q h2)).tr (e9 q h3)).tr (e13 q h4)
  have c5 : ∀ k, k < 6 → mI M13 (b + 5) k = mI M (p + 5) k := fun k hk => by
    rw [(e13 (b + 5) (by omega)).1, (e9 (b + 5) (by omega)).1, ← hM6, mI_aI, if_pos rfl, cpy_lt hk, (e3 (p + 5) (by omega)).1]
  have c6 : ∀ k, k < 6 → mI M13 (b + 6) k = mI M (p + 6) k := fun k hk => by
    rw [(e13 (b + 6) (by omega)).1, ← hM9, mI_aI, if_pos rfl, cpy_lt hk, (e6 (p + 6) (by omega)).1, (e3 (p + 6) (by omega)).1]
  have c8 : ∀ k, k < 3 → mI M13 (b + 8) k = mI M (p + 8) k := fun k hk => by
    rw [← hM13, mI_aI, if_pos rfl, cpy_lt hk, (e9 (p + 8) (by omega)).1, (e6 (p + 8) (by omega)).1, (e3 (p + 8) (by omega)).1]
  have t13 : TR M13 (b + 1) r := by
    refine t3.keep ?_ ?_ ?_ ?_ <;> exact ((e6 _ (by omega)).tr (e9 _ (by omega))).tr (e13 _ (by omega))
  have eo13 : Eo (fun q => b ≤ q ∧ q < b + 9) M M13 := ((((e3.up (fun a ha => by omega)).tr (e6.up (fun a ha => by omega))).tr (e9.up (fun a ha => by omega))).tr (e13.up (fun a ha => by omega)))
  refine loop_for 6 (by decide) (fun i N => Eo (fun q => q = b + 7) M13 N ∧ ∀ k, k < i → mR N (b + 7) k = mR M (p + 7) k) M13 ⟨Eo.rf, fun k hk => absurd hk (by omega)⟩ (fun N rec hI => ?_) (fun i N rec hi hI hr => ?_)
  · obtain ⟨e7, r7⟩ := hI
    refine So.ite (fun _ => So_nm (So_nm (So_nm (So_nm (So.ok ?_))))) (fun hc => absurd hc (ge_self 6))
    have ep : Ea M N p := (ea p (by omega) (by omega) (by omega) (by omega)).tr (e7 p (by omega))
    have eb : Ea M N b := (ea b (by omega) (by omega) (by omega) (by omega)).tr (e7 b (by omega))
    have npb : ¬ p = b := by omega
    have w7 : mI (sI (sI (sJ N b 5 (mJ N p 5)) b 6 (mI (sJ N b 5 (mJ N p 5)) p 6)) b 7 (mI (sI (sJ N b 5 (mJ N p 5)) b 6 (mI (sJ N b 5 (mJ N p 5)) p 6)) p 7)) p 8 = mI M p 8 := by
      simp only [mI_sI, mJ_sJ, mR_sR, mI_sJ, mI_sR, mJ_sI, mJ_sR, mR_sI, mR_sJ, mN_sI, mN_sJ, mN_sR, mI_aI, mJ_aJ, mI_aJ, mJ_aI, mR_aI, mR_aJ, mN_aI, mN_aJ, npb, false_and, if_false]; rw [ep.1]
    refine ⟨?_, ?_, ?_, ?_, ?_, ?_, ?_, fun k hk => ⟨?_, ?_, ?_⟩, fun k hk => ?_⟩
    · exact ((((eo13.tr (e7.up (fun a ha => by omega))).tr (Eo_sJ (by omega))).tr (Eo_sI (by omega))).tr (Eo_sI (by omega))).tr (Eo_sI (by omega))
    · refine t13.keep ?_ ?_ ?_ ?_ <;> exact ((((e7 _ (by omega)).tr (Ea_sJ (by omega))).tr (Ea_sI (by omega))).tr (Ea_sI (by omega))).tr (Ea_sI (by omega))
    · simp only [mI_sI, mJ_sJ, mR_sR, mI_sJ, mI_sR, mJ_sI, mJ_sR, mR_sI, mR_sJ, mN_sI, mN_sJ, mN_sR, mI_aI, mJ_aJ, mI_aJ, mJ_aI, mR_aI, mR_aJ, mN_aI, mN_aJ, and_self, if_true]; rw [ep.2.1]
    · simp only [mI_sI, mJ_sJ, mR_sR, mI_sJ, mI_sR, mJ_sI, mJ_sR, mR_sI, mR_sJ, mN_sI, mN_sJ, mN_sR, mI_aI, mJ_aJ, mI_aJ, mJ_aI, mR_aI, mR_aJ, mN_aI, mN_aJ, npb, false_and, if_false, and_self, if_true, Nat.reduceEqDiff, and_false]; rw [ep.1]
    · simp only [mI_sI, mJ_sJ, mR_sR, mI_sJ, mI_sR, mJ_sI, mJ_sR, mR_sI, mR_sJ, mN_sI, mN_sJ, mN_sR, mI_aI, mJ_aJ, mI_aJ, mJ_aI, mR_aI, mR_aJ, mN_aI, mN_aJ, npb, false_and, if_false, and_self, if_true, Nat.reduceEqDiff, and_false]; rw [ep.1]
    · rw [mI_sI, if_pos ⟨rfl, rfl⟩]; exact w7
    · simp only [mI_sI, mJ_sJ, mR_sR, mI_sJ, mI_sR, mJ_sI, mJ_sR, mR_sI, mR_sJ, mN_sI, mN_sJ, mN_sR, mI_aI, mJ_aJ, mI_aJ, mJ_aI, mR_aI, mR_aJ, mN_aI, mN_aJ, Nat.reduceEqDiff, and_false, if_false]; rw [eb.1]
    · have n1 : ¬ b + 5 = b := by omega
      simp only [mI_sI, mJ_sJ, mR_sR, mI_sJ, mI_sR, mJ_sI, mJ_sR, mR_sI, mR_sJ, mN_sI, mN_sJ, mN_sR, mI_aI, mJ_aJ, mI_aJ, mJ_aI, mR_aI, mR_aJ, mN_aI, mN_aJ, n1, false_and, if_false]
      rw [(e7 (b + 5) (by omega)).1]; exact c5 k hk
    · have n1 : ¬ b + 6 = b := by omega
      simp only [mI_sI, mJ_sJ, mR_sR, mI_sJ, mI_sR, mJ_sI, mJ_sR, mR_sI, mR_sJ, mN_sI, mN_sJ, mN_sR, mI_aI, mJ_aJ, mI_aJ, mJ_aI, mR_aI, mR_aJ, mN_aI, mN_aJ, n1, false_and, if_false]
      rw [(e7 (b + 6) (by omega)).1]; exact c6 k hk
    · simp only [mI_sI, mJ_sJ, mR_sR, mI_sJ, mI_sR, mJ_sI, mJ_sR, mR_sI, mR_sJ, mN_sI, mN_sJ, mN_sR, mI_aI, mJ_aJ, mI_aJ, mJ_aI, mR_aI, mR_aJ, mN_aI, mN_aJ]; exact r7 k hk
    · have n1 : ¬ b + 8 = b := by omega
      simp only [mI_sI, mJ_sJ, mR_sR, mI_sJ, mI_sR, mJ_sI, mJ_sR, mR_sI, mR_sJ, mN_sI, mN_sJ, mN_sR, mI_aI, mJ_aJ, mI_aJ, mJ_aI, mR_aI, mR_aJ, mN_aI, mN_aJ, n1, false_and, if_false]
      rw [(e7 (b + 8) (by omega)).1]; exact c8 k hk
  · obtain ⟨e7, r7⟩ := hI
    refine So.ite (fun hc => absurd hc (nle hi (by decide))) (fun _ => So_gd (inb_nn hi (by decide)) (So_nm (So_gd (inb_nn hi (by decide)) (So_nm (So_nm (hr _ ⟨e7.tr (Eo_sR rfl), fun k hk => ?_⟩))))))
    rw [nn_ix (by omega), mR_sR]
    by_cases hki : k = i
    · subst hki
      rw [if_pos ⟨rfl, rfl⟩, (e7 (p + 7) (by omega)).2.2.1, (ea (p + 7) (by omega) (by omega) (by omega) (by omega)).2.2.1]
    · rw [if_neg (fun z => hki z.2)]; exact r7 k (by omega)
