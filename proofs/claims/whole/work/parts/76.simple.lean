/-! ===== calls that change little ===== -/
theorem InvL.chg {Λ : Lam} {t u T : Nat} {M N : Mem} (h : InvL Λ t u T M) (hS : SR Λ N (u + 42) T (t + 1) (mI N (u + 2))) (hH : HR N (t + 29) u) (e : ∀ q, UsedC t u T q → Ea M N q) (e' : ∀ q, q = t + 171 ∨ q = t + 275 ∨ q = t + 276 ∨ q = u + 1 ∨ q = u + 41 → Ea M N q) (et : ∀ k, k = 16 ∨ k = 17 ∨ k = 18 → mI N t k = mI M t k) (eu : ∀ k, k ∈ ([1, 11, 13, 18, 20, 64, 67] : List Nat) → mI N u k = mI M u k) : InvL Λ t u T N := by
  refine h.upd hS hH (h.2.2.2.2.2.2.1.upd ?_ (et 17 (by omega)) (et 18 (by omega)) (by rw [(e' (t + 171) (by omega)).1]) (eu 11 (by decide)) (eu 64 (by decide)) (eu 18 (by decide)) (eu 67 (by decide)) (fun i hi => ?_) (e' _ (by omega)).1 (e' _ (by omega)).1) e (by rw [(e' (t + 171) (by omega)).1]) (eu 13 (by decide)) (eu 20 (by decide))
  · rw [et 16 (by omega), eu 1 (by decide)]; exact h.2.2.2.2.2.2.1.1
  · rw [(e' (t + 275) (by omega)).1, (e' (u + 1) (by omega)).1]
    exact h.2.2.2.2.2.2.1.2.2.2.2.1 i hi
theorem SR.upd {Λ : Lam} {M N : Mem} {lo T b : Nat} {r r' : Nat → Int32} (h : SR Λ M lo T b r) (e : ∀ q, (b + 1 ≤ q ∧ q < b + 5) ∨ q = b + 7 ∨ q = b + 8 → Ea M N q) (eT : ∀ q, lo ≤ q → q < T → Ea M N q) (e7 : mI N b 7 = mI M b 7) (e8 : mI N b 8 = mI M b 8) (hr : ∀ k, (1 ≤ k ∧ k < 130) ∨ 194 ≤ k → r' k = r k) (hh : SRh N b r') (hs : SRs N b r') : SR Λ N lo T b r' := by
  obtain ⟨h1, h2, h3, h4, ⟨n, c1, c2, c3, c4, c5, c6⟩, d1, d2, d3, d4, d5, d6⟩ := h
  refine ⟨(h1.keep (e _ (by omega)) (e _ (by omega)) (e _ (by omega)) (e _ (by omega))).row (fun k a b => hr k (by omega)), h2.row (fun k a b => hr k (by omega)), hh, hs, ⟨n, c1, by rw [e7]; exact c2, by rw [hr 1 (by omega)]; exact c3, by rw [e8, hr 2 (by omega)]; exact c4, by rw [hr 2 (by omega)]; exact c5, fun i hi => ?_⟩, ?_⟩
  · obtain ⟨a, a1, a2, a3, a4, len, a5⟩ := c6 i hi
    exact ⟨a, by rw [(e (b + 7) (by omega)).2.2.1]; exact a1, a2, a3, a4.keep (eT _ (by omega) (by omega)) (eT _ (by omega) (by omega)) (eT _ (by omega) (by omega)), len, a5.row (fun k a b => hr k (by omega))⟩
  · unfold SRt
    rw [(e (b + 8) (by omega)).1, hr 5 (by omega), hr 6 (by omega), hr 7 (by omega)]
    exact ⟨d1, d2, d3, d4, d5, d6⟩
theorem InvL.hr {Λ : Lam} {t u T : Nat} {M N : Mem} (h : InvL Λ t u T M) (e : ∀ q, t + 29 ≤ q → q < t + 96 → Ea M N q) (e5 : mI N (u + 5) = mI M (u + 5)) (e6 : mI N (u + 6) = mI M (u + 6)) (e8 : mI N u 8 = mI M u 8) : HR N (t + 29) u := h.2.2.2.2.1.keep (fun q a b => e q (by omega) (by omega)) e5 e6 e8
theorem st_forget : St_forget Inv := by
  rintro t u T M ⟨Λ, h⟩
  have hu := h.1
  have hT := h.2.1
  obtain ⟨n, n1, n2, n3, n4⟩ := h.2.2.1.2.2.2.1
  generalize hN : sI (sI (sI M (t + 1) 6 0) u 0 0) (u + 2) 0 0 = N
  have Eq : ∀ q, q ≠ t + 1 → q ≠ u → q ≠ u + 2 → Ea M N q := fun q a b c => by rw [← hN]; (repeat (first | exact Ea.rf _ _ | refine Ea.tr ?_ (Ea_sI (by omega)) | refine Ea.tr ?_ (Ea_sJ (by omega))))
  refine ⟨Int32.ofNat n, sI M (t + 1) 6 0, N, ?_, ?_, Λ, h.chg ?_ (h.hr (fun q a b => Eq q (by omega) (by omega) (by omega)) (Eq _ (by omega) (by omega) (by omega)).1 (Eq _ (by omega) (by omega) (by omega)).1 (by rw [← hN]; simp (disch := omega) only [mI_n1, mI_n2, mI_e, mJ_n1, mJ_n2, mJ_e, mI_sJ, mI_sR, mJ_sI, mJ_sR, mR_sI, mR_sJ])) (fun q hq => Eq q (by unfold UsedC at hq; omega) (by unfold UsedC at hq; omega) (by unfold UsedC at hq; omega)) (fun q hq => Eq q (by omega) (by omega) (by omega)) (fun k hk => (by rw [← hN]; simp (disch := omega) only [mI_n1, mI_n2, mI_e, mJ_n1, mJ_n2, mJ_e, mI_sJ, mI_sR, mJ_sI, mJ_sR, mR_sI, mR_sJ])) (fun k hk => ?_)⟩
  · show some (mI M (t + 1) 6, _) = _; rw [n2]
  · show some (mI (sI (sI M (t + 1) 6 0) u 0 0) (u + 2) 0, _) = _
    rw [mI_n1 (by omega), mI_n1 (by omega), n3, hN]
  · refine h.2.2.1.upd (fun q hq => Eq q (by omega) (by omega) (by omega)) (fun q a b => Eq q (by omega) (by omega) (by omega)) (by rw [← hN]; simp (disch := omega) only [mI_n1, mI_n2, mI_e, mJ_n1, mJ_n2, mJ_e, mI_sJ, mI_sR, mJ_sI, mJ_sR, mR_sI, mR_sJ]) (by rw [← hN]; simp (disch := omega) only [mI_n1, mI_n2, mI_e, mJ_n1, mJ_n2, mJ_e, mI_sJ, mI_sR, mJ_sI, mJ_sR, mR_sI, mR_sJ]) (fun k hk => (by rw [← hN]; simp (disch := omega) only [mI_n1, mI_n2, mI_e, mJ_n1, mJ_n2, mJ_e, mI_sJ, mI_sR, mJ_sI, mJ_sR, mR_sI, mR_sJ])) ?_ ⟨0, by omega, by rw [← hN]; simp (disch := omega) only [mI_n1, mI_n2, mI_e, mJ_n1, mJ_n2, mJ_e, mI_sJ, mI_sR, mJ_sI, mJ_sR, mR_sI, mR_sJ]; rfl, by rw [← hN]; simp (disch := omega) only [mI_n1, mI_n2, mI_e, mJ_n1, mJ_n2, mJ_e, mI_sJ, mI_sR, mJ_sI, mJ_sR, mR_sI, mR_sJ]; rfl, fun k hk => absurd hk (by omega)⟩
    obtain ⟨a1, a2, a3⟩ := h.2.2.1.2.2.1
    have e13 : ∀ c, mI N (u + 2) (130 + c) = mI M (u + 2) (130 + c) := fun c => by rw [← hN]; simp (disch := omega) only [mI_n1, mI_n2, mI_e, mJ_n1, mJ_n2, mJ_e, mI_sJ, mI_sR, mJ_sI, mJ_sR, mR_sI, mR_sJ]
    unfold SRh
    simp only [e13]
    exact ⟨by rw [← hN]; simp (disch := omega) only [mI_n1, mI_n2, mI_e, mJ_n1, mJ_n2, mJ_e, mI_sJ, mI_sR, mJ_sI, mJ_sR, mR_sI, mR_sJ]; exact a1, a2, a3⟩
  · have k0 : k ≠ 0 := fun z => by rw [z] at hk; exact absurd hk (by decide)
    rw [← hN]; simp (disch := omega) only [mI_n1, mI_n2, mI_e, mJ_n1, mJ_n2, mJ_e, mI_sJ, mI_sR, mJ_sI, mJ_sR, mR_sI, mR_sJ]
theorem i1_lt {p : Int32} {n : Nat} (hn : n < 1000) : (p < -1 ∨ Int32.ofNat n ≤ p) ↔ ¬ (p = -1 ∨ ∃ k, k < n ∧ p = Int32.ofNat k) := by
  rw [Int32.lt_iff_toInt_lt, Int32.le_iff_toInt_le, nn_int (by omega), show (-1 : Int32).toInt = -1 from rfl]
  constructor
  · rintro h (rfl | ⟨k, hk, rfl⟩)
    · rw [show (-1 : Int32).toInt = -1 from rfl] at h; omega
    · rw [nn_int (by omega)] at h; omega
  · intro h
    apply Classical.byContradiction
    intro z
    by_cases c : p.toInt = -1
    · exact h (Or.inl (Int32.toInt_inj.mp c))
    · obtain ⟨k, hk, rfl⟩ := nn_exi (i := p) (by omega)
      rw [nn_int hk] at z
      exact h (Or.inr ⟨k, by omega, rfl⟩)
theorem isLaw_c {t n : Nat} {p : Int32} {M : Mem} (h : mI M (t + 1) 7 = Int32.ofNat n) (hn : n ≤ 6) : ∃ v : Int32, FX11_isLaw t p M = some v ∧ (v = 1 ∧ (p = -1 ∨ ∃ k, k < n ∧ p = Int32.ofNat k) ∨ v = 0 ∧ ¬ (p = -1 ∨ ∃ k, k < n ∧ p = Int32.ofNat k)) := by
  unfold FX11_isLaw jn1 jn0; simp only []
  rw [h]
  have e := i1_lt (p := p) (n := n) (by omega)
  by_cases c1 : p < -1
  · rw [if_pos c1]; exact ⟨0, rfl, Or.inr ⟨rfl, e.mp (Or.inl c1)⟩⟩
  · rw [if_neg c1]
    by_cases c2 : Int32.ofNat n ≤ p
    · rw [if_pos c2]; exact ⟨0, rfl, Or.inr ⟨rfl, e.mp (Or.inr c2)⟩⟩
    · rw [if_neg c2]
      refine ⟨1, rfl, Or.inl ⟨rfl, ?_⟩⟩
      apply Classical.byContradiction
      intro z
      exact (e.mpr z).elim c1 c2
theorem isLaw_r {u n : Nat} {p : Int32} {M : Mem} (h : mI M (u + 2) 1 = Int32.ofNat n) (hn : n ≤ 6) : ∃ v : Int32, FX12_isLaw u p M = some v ∧ (v = 1 ∧ (p = -1 ∨ ∃ k, k < n ∧ p = Int32.ofNat k) ∨ v = 0 ∧ ¬ (p = -1 ∨ ∃ k, k < n ∧ p = Int32.ofNat k)) := by
  unfold FX12_isLaw jn1 jn0; simp only []
  by_cases c1 : p = -1
  · rw [if_pos c1]; exact ⟨1, rfl, Or.inl ⟨rfl, Or.inl c1⟩⟩
  · rw [if_neg c1, in_i, h, i2j_nn (by omega)]
    have e : (Int64.ofNat n - 1).toInt = (n : Int) - 1 := by
      rw [j_sub, jn_int (by omega)]; rfl
      all_goals (rw [jn_int (by omega), show (1 : Int64).toInt = 1 from rfl]; omega)
    rw [e, show (0 : Int64).toInt = 0 from rfl]
    show ∃ v, (if (if 0 ≤ p.toInt ∧ p.toInt ≤ (n : Int) - 1 then (1 : Int32) else 0) = 0 then gd (isB 0) (some 0) else gd (isB 1) (some 1)) = some v ∧ _
    by_cases c2 : 0 ≤ p.toInt ∧ p.toInt ≤ (n : Int) - 1
    · rw [if_pos c2, if_neg (by decide)]
      obtain ⟨k, hk, rfl⟩ := nn_exi (i := p) c2.1
      rw [nn_int hk] at c2
      exact ⟨1, rfl, Or.inl ⟨rfl, Or.inr ⟨k, by omega, rfl⟩⟩⟩
    · rw [if_neg c2, if_pos rfl]
      refine ⟨0, rfl, Or.inr ⟨rfl, ?_⟩⟩
      rintro (z | ⟨k, hk, rfl⟩)
      · exact c1 z
      · rw [nn_int (by omega)] at c2; omega
theorem st_force : St_force Inv := by
  rintro t u T M p1 ⟨Λ, h⟩
  have hu := h.1
  have hT := h.2.1
  obtain ⟨n, c1, c2, c3, c4, c5, c6⟩ := h.2.2.1.2.2.2.2.1
  obtain ⟨v, e1, e2⟩ := isLaw_c (p := p1) c2 c1
  by_cases hl : p1 = -1 ∨ ∃ k, k < n ∧ p1 = Int32.ofNat k
  · have hv : v = 1 := by rcases e2 with ⟨z, _⟩ | ⟨_, z⟩; exact z; exact absurd hl z
    subst hv
    generalize hN : sI (sI (sI (sI M (t + 1) 8 p1) t 16 0) u 0 0) (u + 2) 2 p1 = N
    have x1 : mI (sI (sI (sI M (t + 1) 8 p1) t 16 0) u 0 0) (u + 2) 1 = Int32.ofNat n := by simp (disch := omega) only [mI_n1, mI_n2, mI_e, mJ_n1, mJ_n2, mJ_e, mI_sJ, mI_sR, mJ_sI, mJ_sR, mR_sI, mR_sJ]; exact c3
    obtain ⟨v', y1, y2⟩ := isLaw_r (u := u) (p := p1) x1 c1
    have hv' : v' = 1 := by rcases y2 with ⟨z, _⟩ | ⟨_, z⟩; exact z; exact absurd hl z
    subst hv'
    refine ⟨mI M (t + 1) 8, sI (sI M (t + 1) 8 p1) t 16 0, sI N u 1 0, ?_, ?_, Λ, ?_⟩
    · unfold FX11_force
      rw [e1]; rfl
    · unfold FX12_force nm
      simp only []
      rw [y1]
      simp only [Option.bind, jn2]
      rw [if_neg (by decide)]
      show some (mI (sI (sI (sI M (t + 1) 8 p1) t 16 0) u 0 0) (u + 2) 2, sI (sI (sI (sI (sI M (t + 1) 8 p1) t 16 0) u 0 0) (u + 2) 2 p1) u 1 0) = _
      rw [hN]
      congr 2
      simp (disch := omega) only [mI_n1, mI_n2, mI_e, mJ_n1, mJ_n2, mJ_e, mI_sJ, mI_sR, mJ_sI, mJ_sR, mR_sI, mR_sJ]
      exact c4.symm
    · have E0 : ∀ q, q ≠ t → q ≠ t + 1 → q ≠ u → q ≠ u + 2 → Ea M (sI N u 1 0) q := fun q a b c d => by rw [← hN]; (repeat (first | exact Ea.rf _ _ | refine Ea.tr ?_ (Ea_sI (by omega)) | refine Ea.tr ?_ (Ea_sJ (by omega))))
      have hS : SR Λ (sI N u 1 0) (u + 42) T (t + 1) (mI (sI N u 1 0) (u + 2)) := by
        obtain ⟨h1, h2, h3, h4, -, h6⟩ := h.2.2.1
        have rr : ∀ k, k ≠ 2 → mI (sI N u 1 0) (u + 2) k = mI M (u + 2) k := fun k hk => by rw [← hN]; simp (disch := omega) only [mI_n1, mI_n2, mI_e, mJ_n1, mJ_n2, mJ_e, mI_sJ, mI_sR, mJ_sI, mJ_sR, mR_sI, mR_sJ]
        have r2 : mI (sI N u 1 0) (u + 2) 2 = p1 := by rw [← hN]; simp (disch := omega) only [mI_n1, mI_n2, mI_e, mJ_n1, mJ_n2, mJ_e, mI_sJ, mI_sR, mJ_sI, mJ_sR, mR_sI, mR_sJ]
        refine ⟨(h1.keep (E0 _ (by omega) (by omega) (by omega) (by omega)) (E0 _ (by omega) (by omega) (by omega) (by omega)) (E0 _ (by omega) (by omega) (by omega) (by omega)) (E0 _ (by omega) (by omega) (by omega) (by omega))).row (fun k a b => rr k (by omega)), h2.row (fun k a b => rr k (by omega)), ?_, ?_, ⟨n, c1, ?_, ?_, ?_, ?_, fun i hi => ?_⟩, ?_⟩
        · have e13 : ∀ c, mI (sI N u 1 0) (u + 2) (130 + c) = mI M (u + 2) (130 + c) := fun c => rr _ (by omega)
          unfold SRh
          simp only [e13]
          exact ⟨by rw [← hN]; simp (disch := omega) only [mI_n1, mI_n2, mI_e, mJ_n1, mJ_n2, mJ_e, mI_sJ, mI_sR, mJ_sI, mJ_sR, mR_sI, mR_sJ]; exact h3.1, h3.2⟩
        · obtain ⟨m, b1, b2, b3, b4⟩ := h4
          refine ⟨m, b1, by rw [← hN]; simp (disch := omega) only [mI_n1, mI_n2, mI_e, mJ_n1, mJ_n2, mJ_e, mI_sJ, mI_sR, mJ_sI, mJ_sR, mR_sI, mR_sJ]; exact b2, by rw [rr 0 (by decide)]; exact b3, fun k hk => ?_⟩
          rw [rr _ (by omega), rr _ (by omega), (E0 (t + 1 + 5) (by omega) (by omega) (by omega) (by omega)).1, (E0 (t + 1 + 6) (by omega) (by omega) (by omega) (by omega)).1]
          exact b4 k hk
        · rw [← hN]; simp (disch := omega) only [mI_n1, mI_n2, mI_e, mJ_n1, mJ_n2, mJ_e, mI_sJ, mI_sR, mJ_sI, mJ_sR, mR_sI, mR_sJ]; exact c2
        · rw [rr 1 (by decide)]; exact c3
        · rw [r2, ← hN]; simp (disch := omega) only [mI_n1, mI_n2, mI_e, mJ_n1, mJ_n2, mJ_e, mI_sJ, mI_sR, mJ_sI, mJ_sR, mR_sI, mR_sJ]
        · rw [r2]; exact hl
        · obtain ⟨a, a1, a2, a3, a4, len, a5⟩ := c6 i hi
          exact ⟨a, by rw [(E0 (t + 1 + 7) (by omega) (by omega) (by omega) (by omega)).2.2.1]; exact a1, a2, a3, a4.keep (E0 _ (by omega) (by omega) (by omega) (by omega)) (E0 _ (by omega) (by omega) (by omega) (by omega)) (E0 _ (by omega) (by omega) (by omega) (by omega)), len, a5.row (fun k a b => rr k (by omega))⟩
        · unfold SRt
          rw [(E0 (t + 1 + 8) (by omega) (by omega) (by omega) (by omega)).1, rr 5 (by decide), rr 6 (by decide), rr 7 (by decide)]; exact h6
      have hH : HR (sI N u 1 0) (t + 29) u := h.hr (fun q a b => E0 q (by omega) (by omega) (by omega) (by omega)) (E0 _ (by omega) (by omega) (by omega) (by omega)).1 (E0 _ (by omega) (by omega) (by omega) (by omega)).1 (by rw [← hN]; simp (disch := omega) only [mI_n1, mI_n2, mI_e, mJ_n1, mJ_n2, mJ_e, mI_sJ, mI_sR, mJ_sI, mJ_sR, mR_sI, mR_sJ])
      refine h.upd hS hH (h.2.2.2.2.2.2.1.upd ?_ ?_ ?_ ?_ ?_ ?_ ?_ ?_ (fun i hi => ?_) (E0 _ (by omega) (by omega) (by omega) (by omega)).1 (E0 _ (by omega) (by omega) (by omega) (by omega)).1) (fun q hq => E0 q (by unfold UsedC at hq; omega) (by unfold UsedC at hq; omega) (by unfold UsedC at hq; omega) (by unfold UsedC at hq; omega)) ?_ ?_ ?_
      all_goals first | (rw [← hN]; simp (disch := omega) only [mI_n1, mI_n2, mI_e, mJ_n1, mJ_n2, mJ_e, mI_sJ, mI_sR, mJ_sI, mJ_sR, mR_sI, mR_sJ]; done) | skip
      rw [(E0 (t + 275) (by omega) (by omega) (by omega) (by omega)).1, (E0 (u + 1) (by omega) (by omega) (by omega) (by omega)).1]
      exact h.2.2.2.2.2.2.1.2.2.2.2.1 i hi
  · have hv : v = 0 := by rcases e2 with ⟨_, z⟩ | ⟨z, _⟩; exact absurd z hl; exact z
    subst hv
    obtain ⟨M1, M2, q1, q2, q3⟩ := h.refuse (j := 1) (by decide)
    have q1 : FX11_refuse t (-2) M = some (-2, M1) := q1
    have q2 : FX12_tell u (-2) (sI M1 u 0 0) = some (-2, M2) := q2
    have x1 : mI (sI M1 u 0 0) (u + 2) 1 = Int32.ofNat n := by
      have := refuse_eq (t := t) (j := 1) (c := -2) (M := M) (by decide) rfl
      rw [q1] at this
      have hM1 : M1 = _ := (Prod.mk.inj (Option.some.inj this)).2
      rw [hM1]; simp (disch := omega) only [mI_n1, mI_n2, mI_e, mJ_n1, mJ_n2, mJ_e, mI_sJ, mI_sR, mJ_sI, mJ_sR, mR_sI, mR_sJ]; exact c3
    obtain ⟨v', y1, y2⟩ := isLaw_r (u := u) (p := p1) x1 c1
    have hv' : v' = 0 := by rcases y2 with ⟨_, z⟩ | ⟨z, _⟩; exact absurd z hl; exact z
    subst hv'
    refine ⟨-2, M1, M2, ?_, ?_, Λ, q3⟩
    · unfold FX11_force
      rw [e1]
      simp only [Option.bind]
      rw [if_neg (by decide), q1]; rfl
    · unfold FX12_force nm
      simp only []
      rw [y1]
      simp only [Option.bind, jn2]
      rw [if_pos (by decide), q2]; rfl
