/-! ===== law: the call ===== -/
theorem put_out {M U : Mem} {a S q : Nat} (h : q < a ∨ a + S ≤ q) : Ea M (put M a S U) q := by
  have z : ¬ (a ≤ q ∧ q < a + S) := by omega
  refine ⟨?_, ?_, ?_, ?_⟩
  · funext k; show (if a ≤ q ∧ q < a + S then U.1 (q - a) else M.1 q) k = M.1 q k; rw [if_neg z]
  · funext k; show (if a ≤ q ∧ q < a + S then U.2.1 (q - a) else M.2.1 q) k = M.2.1 q k; rw [if_neg z]
  · funext k; show (if a ≤ q ∧ q < a + S then U.2.2.1 (q - a) else M.2.2.1 q) k = M.2.2.1 q k; rw [if_neg z]
  · show (if a ≤ q ∧ q < a + S then U.2.2.2 (q - a) else M.2.2.2 q) = M.2.2.2 q; rw [if_neg z]
theorem put_I {M U : Mem} {a S o k : Nat} (h : o < S) : mI (put M a S U) (a + o) k = U.1 o k := by
  show (if a ≤ a + o ∧ a + o < a + S then U.1 (a + o - a) else M.1 (a + o)) k = _
  rw [if_pos (by omega), Nat.add_sub_cancel_left]
theorem put_N {M U : Mem} {a S o : Nat} (h : o < S) : mN (put M a S U) (a + o) = U.2.2.2 o := by
  show (if a ≤ a + o ∧ a + o < a + S then U.2.2.2 (a + o - a) else M.2.2.2 (a + o)) = _
  rw [if_pos (by omega), Nat.add_sub_cancel_left]
/-- the text that the class puts away -/
theorem put_txt {B : Nat → Nat} {L h a p lv n : Nat} {K : List (Nat × Nat)} {I : Nat → CI} {Λ : Lam} {N M3 : Mem} (g : TxG B L h 0 N p lv n K I) (s : LawS B L p lv n I) (hM : M3 = sI (sI N h 3 (-1)) h 2 0) (hΛ : Λ a = (n, I)) : txok M3 (h + 2) = true ∧ TxV Λ (put M3 a 3 (txU M3 (h + 2))) a := by
  obtain ⟨g1, g2, g3, g4, g5, g6, g7⟩ := g
  obtain ⟨k1, k2, k3, k4⟩ := g1.2.2.2.2.2.1
  have hK : K.length ≤ 400 := by
    have := g1.2.2.2.2.2.2.1
    have := tkS_le B g1.2.1
    have := g1.1.1
    omega
  have e2 : mI M3 (h + 2) = mI N (h + 2) := by rw [hM]; funext k; simp (disch := omega) only [mI_n1, mI_n2, mI_e, mJ_n1, mJ_n2, mJ_e, mI_sJ, mI_sR, mJ_sI, mJ_sR, mR_sI, mR_sJ]
  have e3 : mI M3 (h + 2 + 1) = mI N (h + 3) := by rw [hM]; funext k; simp (disch := omega) only [mI_n1, mI_n2, mI_e, mJ_n1, mJ_n2, mJ_e, mI_sJ, mI_sR, mJ_sI, mJ_sR, mR_sI, mR_sJ]
  have e4 : mI M3 (h + 2 + 2) = mI N (h + 4) := by rw [hM]; funext k; simp (disch := omega) only [mI_n1, mI_n2, mI_e, mJ_n1, mJ_n2, mJ_e, mI_sJ, mI_sR, mJ_sI, mJ_sR, mR_sI, mR_sJ]
  have m3 : mN M3 (h + 2 + 1) = 800 := by rw [hM]; exact k1
  have m4 : mN M3 (h + 2 + 2) = 72 := by rw [hM]; exact g2.2
  have v2 : mI M3 (h + 2) 2 = Int32.ofNat (2 * K.length) := by rw [e2]; exact k2
  have v3 : mI M3 (h + 2) 3 = Int32.ofNat n := by rw [e2]; exact g2.1
  have v36 : mI M3 (h + 2) 3 * 6 = Int32.ofNat (n * 6) := by rw [v3]; exact nn_mul n 6
  have i2 : ix (mI M3 (h + 2) 2) = 2 * K.length := by rw [v2, nn_ix (by omega)]
  have i3 : ix (mI M3 (h + 2) 3 * 6) = n * 6 := by rw [v36, nn_ix (by omega)]
  have v4 : mI M3 (h + 2) 4 = 0 ∨ mI M3 (h + 2) 4 = 1 := by rw [e2]; exact k4
  have a0 : ∀ k, k = 3 ∨ k = 4 → mI (put M3 a 3 (txU M3 (h + 2))) a k = mI M3 (h + 2) k := fun k hk => by
    have q : mI (put M3 a 3 (txU M3 (h + 2))) a k = (txU M3 (h + 2)).1 0 k := put_I (M := M3) (U := txU M3 (h + 2)) (a := a) (S := 3) (o := 0) (k := k) (by decide)
    have x : (txU M3 (h + 2)).1 0 k = if k = 2 ∨ k = 3 ∨ k = 4 then mI M3 (h + 2) k else 0 := rfl
    rw [q, x, if_pos (by omega)]
  have a1 : ∀ k, k < 2 * K.length → mI (put M3 a 3 (txU M3 (h + 2))) (a + 1) k = mI N (h + 3) k := fun k hk => by
    have x : (txU M3 (h + 2)).1 1 k = if k < ix (mI M3 (h + 2) 2) then mI M3 (h + 2 + 1) k else 0 := rfl
    rw [put_I (by decide), x, i2, if_pos hk, e3]
  have a2 : ∀ k, k < 6 * n → mI (put M3 a 3 (txU M3 (h + 2))) (a + 2) k = mI N (h + 4) k := fun k hk => by
    have x : (txU M3 (h + 2)).1 2 k = if k < ix (mI M3 (h + 2) 3 * 6) then mI M3 (h + 2 + 2) k else 0 := rfl
    rw [put_I (by decide), x, i3, if_pos (by omega), e4]
  have b1 : mN (put M3 a 3 (txU M3 (h + 2))) (a + 1) = 2 * K.length := by
    have x : (txU M3 (h + 2)).2.2.2 1 = ix (mI M3 (h + 2) 2) := rfl
    rw [put_N (by decide), x, i2]
  have b2 : mN (put M3 a 3 (txU M3 (h + 2))) (a + 2) = n * 6 := by
    have x : (txU M3 (h + 2)).2.2.2 2 = ix (mI M3 (h + 2) 3 * 6) := rfl
    rw [put_N (by decide), x, i3]
  refine ⟨?_, K.length, ?_⟩
  · unfold txok
    rw [m3, m4, i2, i3, v2, v36]
    have l1 : ¬ Int32.ofNat (2 * K.length) < 0 := by rw [i_lt0, nn_int (by omega)]; omega
    have l2 : ¬ Int32.ofNat (n * 6) < 0 := by rw [i_lt0, nn_int (by omega)]; omega
    have l3 : isB (mI M3 (h + 2) 4) = true := by rcases v4 with z | z <;> rw [z] <;> rfl
    have l4 : 2 * K.length ≤ 800 := by omega
    have l5 : n * 6 ≤ 72 := by omega
    rw [l3, decide_eq_false l1, decide_eq_false l2, decide_eq_true l4, decide_eq_true l5]
    rfl
  · rw [hΛ]
    refine ⟨by rw [a0 3 (by omega), v3], ⟨g3, hK, by rw [b1]; exact Nat.le_refl _, by rw [b1]; omega, by rw [b2]; omega, by rw [b2]; omega, g4.cg a1 a2 (Nat.le_refl _), g7⟩, by rw [a0 4 (by omega)]; exact v4, fun z i hi => ?_, fun i hi => ⟨(s.2.2 i hi).1, (s.2.2 i hi).2.1⟩⟩
    rw [a0 4 (by omega), e2] at z
    exact g6 rfl z i hi
