theorem lawE_ok {u n0 n len : Nat} {N : Mem} (e : FX12_endText u N = some (sI (sI N u 20 0) u 13 0)) (h19 : mI N u 19 = 0) (h21 : mI N u 21 = Int32.ofNat n) (hn : n ≤ 12) (h23 : mI N u 23 = Int32.ofNat len) (hl : len ≤ 400) (h1 : mI N (u + 2) 1 = Int32.ofNat n0) (h0 : n0 < 6) : So (lawE u N) (fun r => r.1 = Int32.ofNat n0 ∧ LkE u n0 n len N r.2) := by
  unfold lawE
  refine So.bindE e ?_
  generalize hM10 : sI (sI N u 20 0) u 13 0 = M10
  have u10 : ∀ k, k ≠ 20 → k ≠ 13 → mI M10 u k = mI N u k := fun k a b => by rw [← hM10]; simp (disch := omega) only [mI_n1, mI_n2, mI_e, mJ_n1, mJ_n2, mJ_e, mI_sJ, mI_sR, mJ_sI, mJ_sR, mR_sI, mR_sJ]
  have E10 : ∀ q, q ≠ u → Ea N M10 q := fun q a => by rw [← hM10]; (repeat (first | exact Ea.rf _ _ | refine Ea.tr ?_ (Ea_sI (by omega)) | refine Ea.tr ?_ (Ea_sJ (by omega))))
  have z1 : mI M10 (u + 2) 1 = Int32.ofNat n0 := by rw [(E10 (u + 2) (by omega)).1]; exact h1
  generalize hP : 194 + 900 * n0 = P
  have hP2 : P ≤ 4694 := by omega
  have e1 : (194 : Int32) + 900 * Int32.ofNat n0 = Int32.ofNat P := by
    rw [show (900 : Int32) * Int32.ofNat n0 = Int32.ofNat (900 * n0) from nn_mul 900 n0, ← hP]; exact nn_add 194 (900 * n0)
  rw [if_pos (by rw [u10 19 (by decide) (by decide)]; exact h19), z1, e1]
  refine So_nm ?_
  rw [show Int32.ofNat P + 1 = Int32.ofNat (P + 1) from nn_add P 1, nn_ix (by omega), u10 21 (by decide) (by decide), h21]
  refine So_gd (inb_nn (by omega) (by decide)) (So_nm ?_)
  generalize hM14 : sI M10 (u + 2) (P + 1) (Int32.ofNat n) = M14
  have E14 : ∀ q, q ≠ u → q ≠ u + 2 → Ea N M14 q := fun q a b => by rw [← hM14]; exact (E10 q a).tr (Ea_sI b)
  have u14 : ∀ k, mI M14 u k = mI M10 u k := fun k => by rw [← hM14]; simp (disch := omega) only [mI_n1, mI_n2, mI_e, mJ_n1, mJ_n2, mJ_e, mI_sJ, mI_sR, mJ_sI, mJ_sR, mR_sI, mR_sJ]
  refine loop_for (8 * n) (by omega) (fun i X => Eo (fun q => q = u + 2) M14 X ∧ (∀ k, k < i → mI X (u + 2) (P + 2 + k) = mI N (u + 10) k) ∧ ∀ k, (k < P + 2 ∨ P + 2 + i ≤ k) → mI X (u + 2) k = mI M14 (u + 2) k) _ ⟨Eo.rf, fun k hk => absurd hk (by omega), fun k _ => rfl⟩ (fun X rec hI => ?_) (fun i X rec hi hI hr => ?_)
  · obtain ⟨x1, x2, x3⟩ := hI
    have xu : ∀ k, k ≠ 20 → k ≠ 13 → mI X u k = mI N u k := fun k a b => by rw [(x1 u (by omega)).1, u14, u10 k a b]
    rw [if_pos (by rw [xu 21 (by decide) (by decide), h21, show (8 : Int32) * Int32.ofNat n = Int32.ofNat (8 * n) from nn_mul 8 n]; exact (nn_le (by omega) (by omega)).mpr (Nat.le_refl _))]
    refine loop_for len (by omega) (fun j Y => Eo (fun q => q = u + 2) X Y ∧ (∀ k, k < j → mI Y (u + 2) (P + 98 + 2 * k) = mI N (u + 11) k ∧ mI Y (u + 2) (P + 98 + 2 * k + 1) = mI N (u + 12) k) ∧ ∀ k, (k < P + 98 ∨ P + 98 + 2 * j ≤ k) → mI Y (u + 2) k = mI X (u + 2) k) _ ⟨Eo.rf, fun k hk => absurd hk (by omega), fun k _ => rfl⟩ (fun Y rec2 hY => ?_) (fun j Y rec2 hj hY hr2 => ?_)
    · obtain ⟨y1, y2, y3⟩ := hY
      have yu : ∀ k, k ≠ 20 → k ≠ 13 → mI Y u k = mI N u k := fun k a b => by rw [(y1 u (by omega)).1, xu k a b]
      have yu' : ∀ k, mI Y u k = mI M10 u k := fun k => by rw [(y1 u (by omega)).1, (x1 u (by omega)).1, u14]
      rw [if_pos (by rw [yu 23 (by decide) (by decide), h23]; exact (nn_le (by omega) (by omega)).mpr (Nat.le_refl _))]
      refine So_nm ?_
      have q1 : mI Y (u + 2) 1 = Int32.ofNat n0 := by rw [y3 1 (by omega), x3 1 (by omega), ← hM14, mI_n2 (by omega)]; exact z1
      rw [q1, mI_e, show Int32.ofNat n0 + 1 = Int32.ofNat (n0 + 1) from nn_add n0 1, show Int32.ofNat (n0 + 1) - 1 = Int32.ofNat n0 from nn_sub (b := 1) (by omega) (by omega), bo (tell_pos (by rw [nn_int (by omega)]; omega))]
      refine So.ok ⟨rfl, ?_⟩
      generalize hW : sI (sI Y (u + 2) 1 (Int32.ofNat (n0 + 1))) u 1 0 = W
      have w2 : ∀ k, k ≠ 1 → mI W (u + 2) k = mI Y (u + 2) k := fun k hk => by rw [← hW]; simp (disch := omega) only [mI_n1, mI_n2, mI_e, mJ_n1, mJ_n2, mJ_e, mI_sJ, mI_sR, mJ_sI, mJ_sR, mR_sI, mR_sJ]
      have wu : ∀ k, k ≠ 1 → mI W u k = mI Y u k := fun k hk => by rw [← hW]; simp (disch := omega) only [mI_n1, mI_n2, mI_e, mJ_n1, mJ_n2, mJ_e, mI_sJ, mI_sR, mJ_sI, mJ_sR, mR_sI, mR_sJ]
      refine ⟨fun q hq => ?_, fun k a b c => by rw [wu k c, yu k a b], by rw [wu 20 (by decide), yu', ← hM10]; simp (disch := omega) only [mI_n1, mI_n2, mI_e, mJ_n1, mJ_n2, mJ_e, mI_sJ, mI_sR, mJ_sI, mJ_sR, mR_sI, mR_sJ], by rw [wu 13 (by decide), yu', ← hM10]; simp (disch := omega) only [mI_n1, mI_n2, mI_e, mJ_n1, mJ_n2, mJ_e, mI_sJ, mI_sR, mJ_sI, mJ_sR, mR_sI, mR_sJ], by rw [← hW]; simp (disch := omega) only [mI_n1, mI_n2, mI_e, mJ_n1, mJ_n2, mJ_e, mI_sJ, mI_sR, mJ_sI, mJ_sR, mR_sI, mR_sJ], by rw [← hW]; simp (disch := omega) only [mI_n1, mI_n2, mI_e, mJ_n1, mJ_n2, mJ_e, mI_sJ, mI_sR, mJ_sI, mJ_sR, mR_sI, mR_sJ], ?_, fun k hk => ?_, fun k hk => ?_, fun k k1 hk => ?_⟩
      · rw [← hW]
        exact ((((E14 q (by omega) (by omega)).tr (x1 q (by omega))).tr (y1 q (by omega))).tr (Ea_sI (by omega))).tr (Ea_sI (by omega))
      · rw [hP, w2 _ (by omega), y3 _ (by omega), x3 _ (by omega), ← hM14, mI_e]
      · rw [hP, w2 _ (by omega), y3 _ (by omega)]; exact x2 k hk
      · rw [hP, w2 _ (by omega), w2 _ (by omega)]; exact y2 k hk
      · rw [hP] at hk
        rw [w2 _ k1, y3 _ (by omega), x3 _ (by omega), ← hM14, mI_n2 (by omega), (E10 (u + 2) (by omega)).1]
    · obtain ⟨y1, y2, y3⟩ := hY
      have yu : ∀ k, k ≠ 20 → k ≠ 13 → mI Y u k = mI N u k := fun k a b => by rw [(y1 u (by omega)).1, xu k a b]
      have ya : ∀ q, q ≠ u → q ≠ u + 2 → mI Y q = mI N q := fun q a b => by rw [(y1 q b).1, (x1 q b).1, (E14 q a b).1]
      rw [if_neg (by rw [yu 23 (by decide) (by decide), h23]; exact nle hj (by omega)), show Int32.ofNat P + 98 = Int32.ofNat (P + 98) from nn_add P 98, show (2 : Int32) * Int32.ofNat j = Int32.ofNat (2 * j) from nn_mul 2 j, nn_add (P + 98) (2 * j), show Int32.ofNat (P + 98 + 2 * j) + 1 = Int32.ofNat (P + 98 + 2 * j + 1) from nn_add (P + 98 + 2 * j) 1, nn_ix (by omega), nn_ix (by omega), nn_ix (by omega)]
      refine So_gd (inb_nn (by omega) (by decide)) (So_gd (inb_nn (by omega) (by decide)) (So_nm (So_gd (inb_nn (by omega) (by decide)) (So_gd (inb_nn (by omega) (by decide)) (So_nm (So_nm (hr2 _ ⟨(y1.tr (Eo_sI rfl)).tr (Eo_sI rfl), fun k hk => ?_, fun k hk => ?_⟩)))))))
      · rw [ya (u + 11) (by omega) (by omega)]
        rw [show mI (sI Y (u + 2) (P + 98 + 2 * j) (mI N (u + 11) j)) (u + 12) j = mI N (u + 12) j by rw [mI_n1 (by omega), ya (u + 12) (by omega) (by omega)]]
        by_cases z : k = j
        · subst z
          exact ⟨by rw [mI_n2 (by omega), mI_e], by rw [mI_e]⟩
        · rw [mI_n2 (by omega), mI_n2 (by omega), mI_n2 (by omega), mI_n2 (by omega)]; exact y2 k (by omega)
      · rw [mI_n2 (by omega), mI_n2 (by omega)]; exact y3 k (by omega)
  · obtain ⟨x1, x2, x3⟩ := hI
    have xu : mI X u 21 = Int32.ofNat n := by rw [(x1 u (by omega)).1, u14, u10 21 (by decide) (by decide)]; exact h21
    rw [if_neg (by rw [xu, show (8 : Int32) * Int32.ofNat n = Int32.ofNat (8 * n) from nn_mul 8 n]; exact nle hi (by omega)), show Int32.ofNat P + 2 = Int32.ofNat (P + 2) from nn_add P 2, nn_add (P + 2) i, nn_ix (by omega), nn_ix (by omega)]
    refine So_gd (inb_nn (by omega) (by decide)) (So_gd (inb_nn (by omega) (by decide)) (So_nm (So_nm (hr _ ⟨x1.tr (Eo_sI rfl), fun k hk => ?_, fun k hk => ?_⟩))))
    · rw [show mI X (u + 10) i = mI N (u + 10) i by rw [(x1 (u + 10) (by omega)).1, (E14 (u + 10) (by omega) (by omega)).1]]
      by_cases z : k = i
      · subst z; rw [mI_e]
      · rw [mI_n2 (by omega)]; exact x2 k (by omega)
    · rw [mI_n2 (by omega)]; exact x3 k (by omega)
