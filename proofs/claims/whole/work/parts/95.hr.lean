/-! ===== what can be undone grows ===== -/
theorem HR.push {M W : Mem} {h u f n f' n' kd : Nat} {r : Nat → Int32} (hf : f < 16) (hn : n ≤ 16) (h6 : ∀ i, i < n → TR M (hT h ((f + i) % 16)) (snap M u i) ∧ TV (snap M u i) ∧ mI M (h + 2) ((f + i) % 16) = mI M (u + 6) i ∧ ∃ k, k < 4 ∧ mI M (u + 6) i = Int32.ofNat k) (hn' : n' = if n = 16 then 15 else n) (hf' : f' = if n = 16 then (f + 1) % 16 else f)
  (w2 : mI W h 2 = Int32.ofNat f') (w3 : mI W h 3 = Int32.ofNat (n' + 1)) (w8 : mI W u 8 = Int32.ofNat (n' + 1)) (wT : TR W (hT h ((f' + n') % 16)) r) (wk : mI W (h + 2) ((f' + n') % 16) = Int32.ofNat kd) (wo : ∀ i, i < 16 → i ≠ (f' + n') % 16 → (∀ j, j < 4 → Ea M W (hT h i + j)) ∧ mI W (h + 2) i = mI M (h + 2) i)
  (s1 : ∀ j, j < 122 → mI W (u + 5) (122 * n' + j) = r (8 + j)) (s2 : mI W (u + 6) n' = Int32.ofNat kd) (hk : kd < 4) (hV : TV r) (s3 : ∀ i j, i < n' → j < 122 → mI W (u + 5) (122 * i + j) = mI M (u + 5) (122 * (if n = 16 then i + 1 else i) + j)) (s4 : ∀ i, i < n' → mI W (u + 6) i = mI M (u + 6) (if n = 16 then i + 1 else i)) : HR W h u := by
  have hn2 : n' ≤ 15 := by rw [hn']; by_cases z : n = 16 <;> simp only [z, if_true, if_false] <;> omega
  have hf2 : f' < 16 := by rw [hf']; by_cases z : n = 16 <;> simp only [z, if_true, if_false] <;> omega
  refine ⟨f', n' + 1, hf2, by omega, w2, w3, w8, fun i hi => ?_⟩
  by_cases z : i = n'
  · subst z
    have e : ∀ k, 8 ≤ k → k < 130 → snap W u i k = r k := fun k a b => by
      obtain ⟨j, rfl⟩ : ∃ j, k = 8 + j := ⟨k - 8, by omega⟩
      rw [snap_hd, s1 j (by omega)]
    exact ⟨wT.row e, hV.row e, by rw [wk, s2], kd, hk, s2⟩
  · have hi2 : i < n' := by omega
    generalize hi0 : (if n = 16 then i + 1 else i) = i0
    have hin : i0 < n := by
      rw [← hi0]
      by_cases y : n = 16
      · rw [if_pos y]; rw [if_pos y] at hn'; omega
      · rw [if_neg y]; rw [if_neg y] at hn'; omega
    have hmod : (f' + i) % 16 = (f + i0) % 16 := by
      rw [← hi0, hf']
      by_cases y : n = 16
      · rw [if_pos y, if_pos y]; omega
      · rw [if_neg y, if_neg y]
    obtain ⟨a1, a2, a3, a4⟩ := h6 i0 hin
    have hlt : (f' + i) % 16 < 16 := Nat.mod_lt _ (by decide)
    obtain ⟨b1, b2⟩ := wo ((f' + i) % 16) hlt (by omega)
    have e : ∀ k, 8 ≤ k → k < 130 → snap W u i k = snap M u i0 k := fun k a b => by
      obtain ⟨j, rfl⟩ : ∃ j, k = 8 + j := ⟨k - 8, by omega⟩
      rw [snap_hd, snap_hd, s3 i j hi2 (by omega), hi0]
    rw [hmod] at b1 b2
    rw [hmod, s4 i hi2, hi0, b2]
    exact ⟨(a1.keep (b1 0 (by decide)) (b1 1 (by decide)) (b1 2 (by decide)) (b1 3 (by decide))).row e, a2.row e, a3, a4⟩
