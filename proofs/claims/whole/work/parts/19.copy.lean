/-! ===== tables are copied ===== -/
theorem cpy_lt {α : Type} {f g : Nat → α} {n k : Nat} (h : k < n) : va_cpy f g 0 0 n k = f k := by
  unfold va_cpy
  rw [if_pos ⟨Nat.zero_le _, by omega⟩, Nat.zero_add, Nat.sub_zero]
theorem copyT {b p : Nat} {M : Mem} {r : Nat → Int32} (h : p + 4 ≤ b ∨ b + 4 ≤ p) (hT : TR M p r) : So (FX8_copyFrom b p M) (fun N => TR N b r ∧ Eo (fun q => b ≤ q ∧ q < b + 4) M N) := by
  unfold FX8_copyFrom
  simp only [nm]
  refine So.ok ⟨?_, ?_⟩
  · obtain ⟨h1, h2, h3, h4, h5, h6, h7, h8, h9, h10, h11, h12, h13, h14, h15⟩ := hT
    have n00 : ¬ p = b := by omega
    have n01 : ¬ p = b + 1 := by omega
    have n02 : ¬ p = b + 2 := by omega
    have n03 : ¬ p = b + 3 := by omega
    have n10 : ¬ p + 1 = b := by omega
    have n12 : ¬ p + 1 = b + 2 := by omega
    have n13 : ¬ p + 1 = b + 3 := by omega
    have n11 : ¬ p + 1 = b + 1 := by omega
    have n20 : ¬ p + 2 = b := by omega
    have n21 : ¬ p + 2 = b + 1 := by omega
    have n22 : ¬ p + 2 = b + 2 := by omega
    have n23 : ¬ p + 2 = b + 3 := by omega
    have n30 : ¬ p + 3 = b := by omega
    have n31 : ¬ p + 3 = b + 1 := by omega
    have n32 : ¬ p + 3 = b + 2 := by omega
    have n33 : ¬ p + 3 = b + 3 := by omega
    have a01 : ¬ b = b + 1 := by omega
    have a02 : ¬ b = b + 2 := by omega
    have a03 : ¬ b = b + 3 := by omega
    have a10 : ¬ b + 1 = b := by omega
    have a20 : ¬ b + 2 = b := by omega
    have a30 : ¬ b + 3 = b := by omega
    have a12 : ¬ b + 1 = b + 2 := by omega
    have a13 : ¬ b + 1 = b + 3 := by omega
    have a21 : ¬ b + 2 = b + 1 := by omega
    have a23 : ¬ b + 2 = b + 3 := by omega
    have a31 : ¬ b + 3 = b + 1 := by omega
    have a32 : ¬ b + 3 = b + 2 := by omega
    have c0 : va_cpy (mJ M (p + 1)) (mJ M (b + 1)) 0 0 2 0 = mJ M (p + 1) 0 := cpy_lt (by decide)
    have c1 : va_cpy (mJ M (p + 1)) (mJ M (b + 1)) 0 0 2 1 = mJ M (p + 1) 1 := cpy_lt (by decide)
    unfold TR
    simp only [mI_sI, mJ_sJ, mR_sR, mI_sJ, mI_sR, mJ_sI, mJ_sR, mR_sI, mR_sJ, mN_sI, mN_sJ, mN_sR, mI_aI, mJ_aJ, mI_aJ, mJ_aI, mR_aI, mR_aJ, mN_aI, mN_aJ, n00, n01, n02, n03, n10, n11, n12, n13, n20, n21, n22, n23, n30, n31, n32, n33, a01, a02, a03, a10, a20, a30, a12, a13, a21, a23, a31, a32, c0, c1, false_and, and_false, if_false, and_self, if_true, true_and, and_true, Nat.reduceEqDiff, reduceCtorEq]
    refine ⟨h1, h2, h3, h4, h5, h6, h7, h8, h9, h10, h11, h12, ?_, ?_, fun k hk => ?_⟩
    · rw [cpy_lt (by decide)]
      show mI _ (p + 2) 0 = _
      rw [mI_aJ]; exact h13
    · rw [cpy_lt (by decide)]
      show mI _ (p + 2) 1 = _
      rw [mI_aJ]; exact h14
    · rw [cpy_lt hk]
      show mI _ (p + 3) k = _
      rw [mI_aI, if_neg n32, mI_aJ]; exact h15 k hk
  · have P0 : ∀ j, j < 4 → (b ≤ b + j ∧ b + j < b + 4) := fun j hj => by omega
    refine Eo.tr (Eo.tr (Eo.tr (Eo.tr (Eo.tr (Eo.tr (Eo.tr (Eo.tr (Eo.tr (Eo.tr (Eo.tr (Eo.tr (Eo_aJ (P0 1 (by decide))) (Eo_aI (P0 2 (by decide)))) (Eo_aI (P0 3 (by decide)))) (Eo_sJ (P0 0 (by decide)))) (Eo_sJ (P0 0 (by decide)))) (Eo_sI (P0 0 (by decide)))) (Eo_sI (P0 0 (by decide)))) (Eo_sI (P0 0 (by decide)))) (Eo_sI (P0 0 (by decide)))) (Eo_sI (P0 0 (by decide)))) (Eo_sI (P0 0 (by decide)))) (Eo_sI (P0 0 (by decide)))) (Eo_sI (P0 0 (by decide)))
