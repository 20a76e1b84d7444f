/-! ===== terms: what holds after ===== -/
theorem TV.row8 {r r' : Nat → Int32} (h : TV r) (e : ∀ k, 9 ≤ k → k < 130 → r' k = r k) (h8 : 0 ≤ (r' 8).toInt ∧ (r' 8).toInt ≤ 999) : TV r' := by
  have c18 : ∀ p : Int32, cs (fun c => decide (r' (18 + c) = p)) = cs (fun c => decide (r (18 + c) = p)) := fun p => by
    unfold cs
    refine List.filter_congr (fun c hc => ?_)
    rw [e (18 + c) (by omega) (by have := List.mem_range.mp hc; omega)]
  have c70 : cs (fun c => decide (r' (70 + c) = 1)) = cs (fun c => decide (r (70 + c) = 1)) := by
    unfold cs
    refine List.filter_congr (fun c hc => ?_)
    rw [e (70 + c) (by omega) (by have := List.mem_range.mp hc; omega)]
  obtain ⟨h1, h2, h3, h4, h5, h6, h7, h8', h9, h10, h11, h12, h13, h14, h15, h16, h17, h18, h19⟩ := h
  unfold TV
  rw [c18, c18, c18, c70, e 9 (by omega) (by omega), e 10 (by omega) (by omega), e 11 (by omega) (by omega), e 12 (by omega) (by omega), e 13 (by omega) (by omega), e 14 (by omega) (by omega), e 15 (by omega) (by omega), e 16 (by omega) (by omega), e 17 (by omega) (by omega)]
  refine ⟨h8, h2, h3, h4, h5, ?_, h7, h8', h9, h10, fun c hc => ?_, fun c hc => ?_, fun c hc => ?_, fun c hc => ?_, fun z => ⟨fun c hc => ?_, (h15 z).2⟩, h16, h17, h18, h19⟩
  · obtain ⟨n, n1, n2, n3, n4⟩ := h6
    exact ⟨n, n1, n2, n3, fun k hk => by rw [e (122 + k) (by omega) (by omega)]; exact n4 k hk⟩
  · rw [e (18 + c) (by omega) (by omega)]; exact h11 c hc
  · rw [e (18 + c) (by omega) (by omega)]; exact h12 c hc
  · rw [e (70 + c) (by omega) (by omega)]; exact h13 c hc
  · rw [e (70 + c) (by omega) (by omega), e (18 + c) (by omega) (by omega)]; exact h14 c hc
  · rw [e (18 + c) (by omega) (by omega)]; exact (h15 z).1 c hc
theorem TR.row8 {M N : Mem} {b : Nat} {r r' : Nat → Int32} (h : TR M b r) (e : ∀ k, 9 ≤ k → k < 130 → r' k = r k) (ei : ∀ k, k ≠ 12 → mI N b k = mI M b k) (ej : mJ N b = mJ M b) (e1 : Ea M N (b + 1)) (e2 : Ea M N (b + 2)) (e3 : Ea M N (b + 3)) (h8 : mI N b 12 = r' 8) : TR N b r' := by
  obtain ⟨h1, h2, h3, h4, h5, h6, h7, h8', h9, h10, h11, h12, h13, h14, h15⟩ := h
  unfold TR
  rw [ej, e1.2.1, e2.1, e3.1, ei 5 (by decide), ei 6 (by decide), ei 7 (by decide), ei 8 (by decide), ei 9 (by decide), ei 10 (by decide), ei 11 (by decide)]
  refine ⟨h1.congr (fun c hc => ?_), h2.congr (fun c hc => ?_), h3.congr (fun c hc => ?_), h4.congr (fun c hc => ?_), ?_, ?_, ?_, ?_, ?_, ?_, ?_, h8, ?_, ?_, fun k hk => ?_⟩
  · rw [e (18 + c) (by omega) (by omega)]
  · rw [e (18 + c) (by omega) (by omega)]
  · rw [e (18 + c) (by omega) (by omega)]
  · rw [e (70 + c) (by omega) (by omega)]
  all_goals first | (rw [e _ (by omega) (by omega)]; assumption) | (rw [e _ (by omega) (by omega)]; exact h15 k hk)
theorem st_terms : St_terms Inv := by
  rintro t u T M p1 p2 ⟨Λ, h⟩
  have hu := h.1
  have hT' := h.2.1
  by_cases hp : 0 ≤ p1.toInt ∧ p1.toInt < 4
  rotate_left
  · exact st_ref (j := 0) (RF := fun X => FX12_terms u p1 p2 X) h (by decide) (terms_nc hp) (terms_no hp)
  obtain ⟨k, hk', rfl⟩ := nn_exi (i := p1) hp.1
  rw [nn_int hk'] at hp
  have hk : k < 4 := by omega
  by_cases hq : (tmLo k : Int) ≤ p2.toInt ∧ p2.toInt ≤ tmHi k
  rotate_left
  · exact st_ref (j := 0) (RF := fun X => FX12_terms u (Int32.ofNat k) p2 X) h (by decide) (by rw [terms_c hk, if_neg hq]; rfl) (by show FX12_terms u _ _ _ = _; rw [terms_r hk, if_neg hq]; rfl)
  obtain ⟨⟨g1, g2, g3, g4, g5, g6, g7, g8, g9, g10, g11, g12, g13⟩, hV, hh, ⟨m, s1', s2, s3, s4⟩, ⟨n, c1, c2, c3, c4, c5, c6⟩, d1, d2, d3, d4, d5, d6⟩ := h.2.2.1
  obtain ⟨f, -, hf, -, hf2, -⟩ := h.2.2.2.2.1
  have hA : tmA t k = t + 1 + 1 ∨ tmA t k = t + 1 + 8 := by unfold tmA; by_cases z : k = 0 <;> simp [z]
  have hI : 5 ≤ tmI k ∧ tmI k ≤ 8 := by unfold tmI; by_cases z : k = 0 <;> simp [z]; omega
  have old : mI M (tmA t k) (tmK k) = mI M (u + 2) (tmI k) := by
    match k, hk with
    | 0, _ => exact g12
    | 1, _ => exact d1
    | 2, _ => exact d2
    | 3, _ => exact d3
    | k + 4, hk => exact absurd hk (by omega)
  generalize hC : sI (sI (sI M (tmA t k) (tmK k) p2) (t + 29) 3 0) t 16 0 = C
  generalize hN : sI (sI (sI (sI C u 0 0) u 8 0) (u + 2) (tmI k) p2) u 1 0 = N
  have E0 : ∀ q, q ≠ t → q ≠ t + 29 → q ≠ tmA t k → q ≠ u → q ≠ u + 2 → Ea M N q := fun q a b c d e => by rw [← hN, ← hC]; (repeat (first | exact Ea.rf _ _ | refine Ea.tr ?_ (Ea_sI (by omega)) | refine Ea.tr ?_ (Ea_sJ (by omega))))
  have rN : ∀ j, j ≠ tmI k → mI N (u + 2) j = mI M (u + 2) j := fun j hj => by rw [← hN, ← hC]; simp (disch := omega) only [mI_n1, mI_n2, mI_e, mJ_n1, mJ_n2, mJ_e, mI_sJ, mI_sR, mJ_sI, mJ_sR, mR_sI, mR_sJ]
  have rI : mI N (u + 2) (tmI k) = p2 := by rw [← hN]; simp (disch := omega) only [mI_n1, mI_n2, mI_e, mJ_n1, mJ_n2, mJ_e, mI_sJ, mI_sR, mJ_sI, mJ_sR, mR_sI, mR_sJ]
  have aK : mI N (tmA t k) (tmK k) = p2 := by rw [← hN, ← hC]; simp (disch := omega) only [mI_n1, mI_n2, mI_e, mJ_n1, mJ_n2, mJ_e, mI_sJ, mI_sR, mJ_sI, mJ_sR, mR_sI, mR_sJ]
  have aN : ∀ q j, q ≠ t → q ≠ t + 29 → q ≠ u → q ≠ u + 2 → (q ≠ tmA t k ∨ j ≠ tmK k) → mI N q j = mI M q j := fun q j a b c d e => by
    rw [← hN, ← hC]
    rcases e with e | e
    · simp (disch := omega) only [mI_n1, mI_n2, mI_e, mJ_n1, mJ_n2, mJ_e, mI_sJ, mI_sR, mJ_sI, mJ_sR, mR_sI, mR_sJ]
    · rw [mI_n1 (by omega), mI_n1 (by omega), mI_n1 (by omega), mI_n1 (by omega), mI_n1 (by omega), mI_n1 (by omega), mI_n2 e]
  have aJ' : ∀ q, mJ N q = mJ M q := fun q => by rw [← hN, ← hC]; rfl
  refine ⟨mI M (u + 2) (tmI k), C, N, ?_, ?_, Λ, ?_⟩
  · rw [terms_c hk, if_pos hq, old, hC]
  · rw [terms_r hk, if_pos hq, hN]
    congr 2
    rw [← hC]; simp (disch := omega) only [mI_n1, mI_n2, mI_e, mJ_n1, mJ_n2, mJ_e, mI_sJ, mI_sR, mJ_sI, mJ_sR, mR_sI, mR_sJ]
  · have eT : ∀ q, u + 42 ≤ q → q < T → Ea M N q := fun q a b => E0 q (by omega) (by omega) (by omega) (by omega) (by omega)
    have hL : SRl Λ N (u + 42) T (t + 1) (mI N (u + 2)) := by
      refine ⟨n, c1, by rw [aN _ _ (by omega) (by omega) (by omega) (by omega) (by omega)]; exact c2, by rw [rN 1 (by omega)]; exact c3, by rw [aN _ _ (by omega) (by omega) (by omega) (by omega) (by omega), rN 2 (by omega)]; exact c4, by rw [rN 2 (by omega)]; exact c5, fun i hi => ?_⟩
      obtain ⟨a, x1, x2, x3, x4, len, x5⟩ := c6 i hi
      exact ⟨a, by rw [(E0 (t + 1 + 7) (by omega) (by omega) (by omega) (by omega) (by omega)).2.2.1]; exact x1, x2, x3, x4.keep (eT _ (by omega) (by omega)) (eT _ (by omega) (by omega)) (eT _ (by omega) (by omega)), len, x5.row (fun k p q => rN k (by omega))⟩
    have hSs : SRs N (t + 1) (mI N (u + 2)) := by
      refine ⟨m, s1', by rw [aN _ _ (by omega) (by omega) (by omega) (by omega) (by omega)]; exact s2, by rw [rN 0 (by omega)]; exact s3, fun j hj => ?_⟩
      rw [rN _ (by omega), rN _ (by omega), (E0 (t + 1 + 5) (by omega) (by omega) (by omega) (by omega) (by omega)).1, (E0 (t + 1 + 6) (by omega) (by omega) (by omega) (by omega) (by omega)).1]
      exact s4 j hj
    have hSh : SRh N (t + 1) (mI N (u + 2)) := by
      have e13 : ∀ c, mI N (u + 2) (130 + c) = mI M (u + 2) (130 + c) := fun c => rN _ (by omega)
      unfold SRh
      simp only [e13]
      rw [aJ']
      exact hh
    have hH : HR N (t + 29) u := HR.none hf (by rw [← hN, ← hC]; simp (disch := omega) only [mI_n1, mI_n2, mI_e, mJ_n1, mJ_n2, mJ_e, mI_sJ, mI_sR, mJ_sI, mJ_sR, mR_sI, mR_sJ]; exact hf2) (by rw [← hN, ← hC]; simp (disch := omega) only [mI_n1, mI_n2, mI_e, mJ_n1, mJ_n2, mJ_e, mI_sJ, mI_sR, mJ_sI, mJ_sR, mR_sI, mR_sJ]) (by rw [← hN]; simp (disch := omega) only [mI_n1, mI_n2, mI_e, mJ_n1, mJ_n2, mJ_e, mI_sJ, mI_sR, mJ_sI, mJ_sR, mR_sI, mR_sJ])
    have hS : SR Λ N (u + 42) T (t + 1) (mI N (u + 2)) := by
      refine ⟨?_, ?_, hSh, hSs, hL, ?_⟩
      · by_cases z : k = 0
        · subst z
          refine h.2.2.1.1.row8 (fun j a b => rN j (by show j ≠ 8; omega)) (fun j hj => aN _ _ (by omega) (by omega) (by omega) (by omega) (Or.inr hj)) (aJ' _) ?_ ?_ ?_ (aK.trans rI.symm)
          all_goals exact E0 _ (by omega) (by omega) (by show _ ≠ t + 1 + 1; omega) (by omega) (by omega)
        · have hA9 : tmA t k = t + 1 + 8 := by unfold tmA; rw [if_neg z]
          have hI8 : tmI k < 8 := by unfold tmI; rw [if_neg z]; omega
          exact (h.2.2.1.1.keep (E0 _ (by omega) (by omega) (by omega) (by omega) (by omega)) (E0 _ (by omega) (by omega) (by omega) (by omega) (by omega)) (E0 _ (by omega) (by omega) (by omega) (by omega) (by omega)) (E0 _ (by omega) (by omega) (by omega) (by omega) (by omega))).row (fun j a b => rN j (by omega))
      · by_cases z : k = 0
        · subst z
          refine hV.row8 (fun j a b => rN j (by show j ≠ 8; omega)) ?_
          rw [show mI N (u + 2) 8 = p2 from rI]; exact hq
        · have hI8 : tmI k < 8 := by unfold tmI; rw [if_neg z]; omega
          exact hV.row (fun j a b => rN j (by omega))
      · have at9 : ∀ j, (k = 0 ∨ j ≠ k - 1) → mI N (t + 1 + 8) j = mI M (t + 1 + 8) j := fun j hj => by
          refine aN _ _ (by omega) (by omega) (by omega) (by omega) ?_
          by_cases z : k = 0
          · exact Or.inl (by unfold tmA; rw [if_pos z]; omega)
          · exact Or.inr (by unfold tmK; rw [if_neg z]; omega)
        have ar : ∀ j, (k = 0 ∨ j ≠ k - 1) → j < 3 → mI N (u + 2) (5 + j) = mI M (u + 2) (5 + j) := fun j hj h3 => by
          refine rN _ ?_
          unfold tmI
          by_cases z : k = 0
          · rw [if_pos z]; omega
          · rw [if_neg z]; omega
        have one : ∀ j, j < 3 → (tmLo (j + 1) : Int) ≤ (mI M (u + 2) (5 + j)).toInt ∧ (mI M (u + 2) (5 + j)).toInt ≤ tmHi (j + 1) → mI M (t + 1 + 8) j = mI M (u + 2) (5 + j) → mI N (t + 1 + 8) j = mI N (u + 2) (5 + j) ∧ ((tmLo (j + 1) : Int) ≤ (mI N (u + 2) (5 + j)).toInt ∧ (mI N (u + 2) (5 + j)).toInt ≤ tmHi (j + 1)) := fun j h3 hb he => by
          by_cases z : k = 0 ∨ j ≠ k - 1
          · rw [at9 j z, ar j z h3]; exact ⟨he, hb⟩
          · have hkj : k = j + 1 := by omega
            subst hkj
            have a1 : mI N (t + 1 + 8) j = p2 := aK
            have a2 : mI N (u + 2) (5 + j) = p2 := by
              have : tmI (j + 1) = 5 + j := by unfold tmI; rw [if_neg (by omega)]; omega
              rw [← this]; exact rI
            rw [a1, a2]; exact ⟨rfl, hq⟩
        obtain ⟨o1, o2⟩ := one 0 (by decide) d4 d1
        obtain ⟨o3, o4⟩ := one 1 (by decide) d5 d2
        obtain ⟨o5, o6⟩ := one 2 (by decide) d6 d3
        exact ⟨o1, o3, o5, o2, o4, o6⟩
    refine h.fin hS hH (fun q hq => by unfold UsedC at hq; exact E0 q (by omega) (by omega) (by omega) (by omega) (by omega)) (by rw [← hN, ← hC]; simp (disch := omega) only [mI_n1, mI_n2, mI_e, mJ_n1, mJ_n2, mJ_e, mI_sJ, mI_sR, mJ_sI, mJ_sR, mR_sI, mR_sJ]) (fun j hj => by rw [← hN, ← hC]; simp (disch := omega) only [mI_n1, mI_n2, mI_e, mJ_n1, mJ_n2, mJ_e, mI_sJ, mI_sR, mJ_sI, mJ_sR, mR_sI, mR_sJ]) (fun j hj => ?_)
    have k0 : j ≠ 0 := fun z => by rw [z] at hj; exact absurd hj (by decide)
    have k1 : j ≠ 1 := fun z => by rw [z] at hj; exact absurd hj (by decide)
    have k8 : j ≠ 8 := fun z => by rw [z] at hj; exact absurd hj (by decide)
    rw [← hN, ← hC]; simp (disch := omega) only [mI_n1, mI_n2, mI_e, mJ_n1, mJ_n2, mJ_e, mI_sJ, mI_sR, mJ_sI, mJ_sR, mR_sI, mR_sJ]
