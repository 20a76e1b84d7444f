/-! ===== seen, hand, count, feed, end ===== -/
theorem ob {ρ τ : Type} {g : Option ρ} {k : ρ → Option τ} {r : ρ} (h : g = some r) : g.bind k = k r := by rw [h]; rfl
theorem jb {τ : Type} {a : Option τ} {k : Option τ → Option τ} : jn0 a k = k a := rfl
theorem i_lt0 {p : Int32} : p < 0 ↔ p.toInt < 0 := by rw [Int32.lt_iff_toInt_lt]; rfl
theorem st_seen : St_seen Inv := by
  rintro t u T M p1 p2 ⟨Λ, h⟩
  have hu := h.1
  have hT := h.2.1
  obtain ⟨n, s1, s2, s3, s4⟩ := h.2.2.1.2.2.2.1
  rcases card_cases p1 with ⟨c, hc, rfl⟩ | hno
  rotate_left
  · refine st_ref (j := 0) h (by decide) ?_ ?_
    · unfold FX11_seen
      rw [isCard_eq, if_neg hno]; rfl
    · unfold FX12_seen nm; simp only []
      rw [isCardM, if_neg hno]; rfl
  have k1 := isCard_nn hc
  have k2 : FX12_isCard (Int32.ofNat c) = some 1 := by rw [isCardM, nn_int (by omega), if_pos (by omega)]
  have i9 : FX12_in p2.toInt64 0 999 = some (if 0 ≤ p2.toInt ∧ p2.toInt ≤ 999 then 1 else 0) := in_i p2 0 999
  by_cases hp : 0 ≤ p2.toInt ∧ p2.toInt ≤ 999
  rotate_left
  · rw [if_neg hp] at i9
    refine st_ref (j := 0) h (by decide) ?_ ?_
    · unfold FX11_seen
      rw [ob k1, jb, if_neg (by decide)]
      by_cases z : p2 < 0
      · rw [if_pos z]; rfl
      · rw [if_neg z, if_neg (fun y => hp ⟨by rw [i_lt0] at z; omega, Int32.le_iff_toInt_le.mp y⟩)]; rfl
    · unfold FX12_seen nm; simp only []
      rw [ob k2, jb, if_neg (by decide), ob i9, if_neg (by decide)]; rfl
  rw [if_pos hp] at i9
  obtain ⟨m, hm, rfl⟩ := nn_exi (i := p2) hp.1
  rw [nn_int hm] at hp
  have z1 : ¬ Int32.ofNat m < 0 := by rw [i_lt0, nn_int hm]; omega
  have z2 : Int32.ofNat m ≤ 999 := (nn_le (b := 999) hm (by omega)).mpr (by omega)
  by_cases h6 : n = 6
  · subst h6
    refine st_ref (j := 3) h (by decide) ?_ ?_
    · unfold FX11_seen
      rw [ob k1, jb, if_neg (by decide), if_neg z1, if_pos z2, s2, if_neg (by decide)]; rfl
    · unfold FX12_seen nm; simp only []
      rw [ob k2, jb, if_neg (by decide), ob i9, if_pos (by decide), RfM_r hu, s3, if_neg (by decide)]; rfl
  · generalize hC : sI (sI (sI (sI M (t + 1 + 5) n (Int32.ofNat c)) (t + 1 + 6) n (Int32.ofNat m)) (t + 1) 6 (Int32.ofNat (n + 1))) t 16 0 = C
    generalize hN : sI (sI (sI (sI (sI C u 0 0) (u + 2) (182 + 2 * n) (Int32.ofNat c)) (u + 2) (182 + 2 * n + 1) (Int32.ofNat m)) (u + 2) 0 (Int32.ofNat (n + 1))) u 1 0 = N
    have E0 : ∀ q, q ≠ t → q ≠ t + 1 → q ≠ t + 1 + 5 → q ≠ t + 1 + 6 → q ≠ u → q ≠ u + 2 → Ea M N q := fun q a b c d e f => by rw [← hN, ← hC]; (repeat (first | exact Ea.rf _ _ | refine Ea.tr ?_ (Ea_sI (by omega)) | refine Ea.tr ?_ (Ea_sJ (by omega))))
    have rN : ∀ k, k ≠ 0 → k ≠ 182 + 2 * n → k ≠ 183 + 2 * n → mI N (u + 2) k = mI M (u + 2) k := fun k a b c => by rw [← hN, ← hC]; simp (disch := omega) only [mI_n1, mI_n2, mI_e, mJ_n1, mJ_n2, mJ_e, mI_sJ, mI_sR, mJ_sI, mJ_sR, mR_sI, mR_sJ]
    refine ⟨Int32.ofNat (n + 1), C, N, ?_, ?_, Λ, ?_⟩
    · unfold FX11_seen
      rw [ob k1, jb, if_neg (by decide), if_neg z1, if_pos z2, s2, if_pos (show Int32.ofNat n < 6 from (nn_lt (b := 6) (by omega) (by omega)).mpr (by omega)), nn_ix (by omega)]
      apply So.eq
      refine So_gd (inb_nn (by omega) (by decide)) (So_nm ?_)
      have e1 : mI (sI M (t + 1 + 5) n (Int32.ofNat c)) (t + 1) 6 = Int32.ofNat n := by simp (disch := omega) only [mI_n1, mI_n2, mI_e, mJ_n1, mJ_n2, mJ_e, mI_sJ, mI_sR, mJ_sI, mJ_sR, mR_sI, mR_sJ]; exact s2
      rw [e1, nn_ix (by omega)]
      refine So_gd (inb_nn (by omega) (by decide)) (So_nm (So_nm ?_))
      have e2 : mI (sI (sI M (t + 1 + 5) n (Int32.ofNat c)) (t + 1 + 6) n (Int32.ofNat m)) (t + 1) 6 = Int32.ofNat n := by simp (disch := omega) only [mI_n1, mI_n2, mI_e, mJ_n1, mJ_n2, mJ_e, mI_sJ, mI_sR, mJ_sI, mJ_sR, mR_sI, mR_sJ]; exact s2
      rw [e2, show Int32.ofNat n + 1 = Int32.ofNat (n + 1) from nn_add n 1, mI_e, bo (grant_eq _ _ _), hC]
      exact So.ok rfl
    · apply So.eq
      unfold FX12_seen
      have e1 : mI (sI C u 0 0) (u + 2) 0 = Int32.ofNat n := by rw [← hC]; simp (disch := omega) only [mI_n1, mI_n2, mI_e, mJ_n1, mJ_n2, mJ_e, mI_sJ, mI_sR, mJ_sI, mJ_sR, mR_sI, mR_sJ]; exact s3
      refine So_nm ?_
      rw [ob k2, jb, if_neg (by decide), ob i9, if_pos (by decide), e1]
      refine So_nm ?_
      rw [if_pos (show ¬ Int32.ofNat n = 6 from fun z => h6 ((nn_eq (b := 6) (by omega) (by omega)).mp z)), show (2 : Int32) * Int32.ofNat n = Int32.ofNat (2 * n) from nn_mul 2 n, show (182 : Int32) + Int32.ofNat (2 * n) = Int32.ofNat (182 + 2 * n) from nn_add 182 (2 * n), show Int32.ofNat (182 + 2 * n) + 1 = Int32.ofNat (182 + 2 * n + 1) from nn_add (182 + 2 * n) 1, nn_ix (by omega), nn_ix (by omega)]
      refine So_gd (inb_nn (by omega) (by decide)) (So_nm (So_gd (inb_nn (by omega) (by decide)) (So_nm (So_nm ?_))))
      have e2 : mI (sI (sI (sI C u 0 0) (u + 2) (182 + 2 * n) (Int32.ofNat c)) (u + 2) (182 + 2 * n + 1) (Int32.ofNat m)) (u + 2) 0 = Int32.ofNat n := by
        rw [mI_n2 (by omega), mI_n2 (by omega)]; exact e1
      rw [e2, show Int32.ofNat n + 1 = Int32.ofNat (n + 1) from nn_add n 1, bo (tell_pos (by rw [nn_int (by omega)]; omega)), hN]
      exact So.ok rfl
    · have hS : SR Λ N (u + 42) T (t + 1) (mI N (u + 2)) := by
        refine h.2.2.1.upd (fun q hq => E0 q (by omega) (by omega) (by omega) (by omega) (by omega) (by omega)) (fun q a b => E0 q (by omega) (by omega) (by omega) (by omega) (by omega) (by omega)) (by rw [← hN, ← hC]; simp (disch := omega) only [mI_n1, mI_n2, mI_e, mJ_n1, mJ_n2, mJ_e, mI_sJ, mI_sR, mJ_sI, mJ_sR, mR_sI, mR_sJ]) (by rw [← hN, ← hC]; simp (disch := omega) only [mI_n1, mI_n2, mI_e, mJ_n1, mJ_n2, mJ_e, mI_sJ, mI_sR, mJ_sI, mJ_sR, mR_sI, mR_sJ]) (fun k hk => rN k (by omega) (by omega) (by omega)) ?_ ⟨n + 1, by omega, by rw [← hN, ← hC]; simp (disch := omega) only [mI_n1, mI_n2, mI_e, mJ_n1, mJ_n2, mJ_e, mI_sJ, mI_sR, mJ_sI, mJ_sR, mR_sI, mR_sJ], by rw [← hN, ← hC]; simp (disch := omega) only [mI_n1, mI_n2, mI_e, mJ_n1, mJ_n2, mJ_e, mI_sJ, mI_sR, mJ_sI, mJ_sR, mR_sI, mR_sJ], fun k hk => ?_⟩
        · obtain ⟨a1, a2, a3⟩ := h.2.2.1.2.2.1
          have e13 : ∀ c, c < 52 → mI N (u + 2) (130 + c) = mI M (u + 2) (130 + c) := fun c hc => rN _ (by omega) (by omega) (by omega)
          have hj : mJ N (t + 1) 5 = mJ M (t + 1) 5 := by rw [← hN, ← hC]; simp (disch := omega) only [mI_n1, mI_n2, mI_e, mJ_n1, mJ_n2, mJ_e, mI_sJ, mI_sR, mJ_sI, mJ_sR, mR_sI, mR_sJ]
          refine ⟨by rw [hj]; exact a1.congr (fun c hc => by rw [e13 c hc]), fun c hc => by rw [e13 c hc]; exact a2 c hc, ?_⟩
          have : cs (fun c => decide (mI N (u + 2) (130 + c) = 1)) = cs (fun c => decide (mI M (u + 2) (130 + c) = 1)) := by
            unfold cs
            exact List.filter_congr (fun d hd => by rw [e13 d (List.mem_range.mp hd)])
          rw [this]; exact a3
        · by_cases z : k = n
          · subst z
            refine ⟨⟨c, hc, ?_, ?_⟩, m, by omega, ?_, ?_⟩
            · rw [← hN, ← hC]; simp (disch := omega) only [mI_n1, mI_n2, mI_e, mJ_n1, mJ_n2, mJ_e, mI_sJ, mI_sR, mJ_sI, mJ_sR, mR_sI, mR_sJ]
            · rw [← hN, ← hC]; simp (disch := omega) only [mI_n1, mI_n2, mI_e, mJ_n1, mJ_n2, mJ_e, mI_sJ, mI_sR, mJ_sI, mJ_sR, mR_sI, mR_sJ]
            · rw [show 183 + 2 * k = 182 + 2 * k + 1 by omega, ← hN, ← hC]; simp (disch := omega) only [mI_n1, mI_n2, mI_e, mJ_n1, mJ_n2, mJ_e, mI_sJ, mI_sR, mJ_sI, mJ_sR, mR_sI, mR_sJ]
            · rw [← hN, ← hC]; simp (disch := omega) only [mI_n1, mI_n2, mI_e, mJ_n1, mJ_n2, mJ_e, mI_sJ, mI_sR, mJ_sI, mJ_sR, mR_sI, mR_sJ]
          · have f5 : mI N (t + 1 + 5) k = mI M (t + 1 + 5) k := by rw [← hN, ← hC]; simp (disch := omega) only [mI_n1, mI_n2, mI_e, mJ_n1, mJ_n2, mJ_e, mI_sJ, mI_sR, mJ_sI, mJ_sR, mR_sI, mR_sJ]
            have f6 : mI N (t + 1 + 6) k = mI M (t + 1 + 6) k := by rw [← hN, ← hC]; simp (disch := omega) only [mI_n1, mI_n2, mI_e, mJ_n1, mJ_n2, mJ_e, mI_sJ, mI_sR, mJ_sI, mJ_sR, mR_sI, mR_sJ]
            rw [rN _ (by omega) (by omega) (by omega), rN _ (by omega) (by omega) (by omega), f5, f6]
            exact s4 k (by omega)
      exact h.fin hS (h.hr (fun q a b => E0 q (by omega) (by omega) (by omega) (by omega) (by omega) (by omega)) (E0 _ (by omega) (by omega) (by omega) (by omega) (by omega) (by omega)).1 (E0 _ (by omega) (by omega) (by omega) (by omega) (by omega) (by omega)).1 (by rw [← hN, ← hC]; simp (disch := omega) only [mI_n1, mI_n2, mI_e, mJ_n1, mJ_n2, mJ_e, mI_sJ, mI_sR, mJ_sI, mJ_sR, mR_sI, mR_sJ])) (fun q hq => by unfold UsedC at hq; exact E0 q (by omega) (by omega) (by omega) (by omega) (by omega) (by omega)) (by rw [← hN, ← hC]; simp (disch := omega) only [mI_n1, mI_n2, mI_e, mJ_n1, mJ_n2, mJ_e, mI_sJ, mI_sR, mJ_sI, mJ_sR, mR_sI, mR_sJ]) (fun k hk => by rw [← hN, ← hC]; simp (disch := omega) only [mI_n1, mI_n2, mI_e, mJ_n1, mJ_n2, mJ_e, mI_sJ, mI_sR, mJ_sI, mJ_sR, mR_sI, mR_sJ]) (fun k hk => by
        have k0 : k ≠ 0 := fun z => by rw [z] at hk; exact absurd hk (by decide)
        have k1 : k ≠ 1 := fun z => by rw [z] at hk; exact absurd hk (by decide)
        rw [← hN, ← hC]; simp (disch := omega) only [mI_n1, mI_n2, mI_e, mJ_n1, mJ_n2, mJ_e, mI_sJ, mI_sR, mJ_sI, mJ_sR, mR_sI, mR_sJ])
