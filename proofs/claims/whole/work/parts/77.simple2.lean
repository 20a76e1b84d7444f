/-! ===== hold, drop, seen ===== -/
theorem InvL.fin {Λ : Lam} {t u T : Nat} {M N : Mem} (h : InvL Λ t u T M) (hS : SR Λ N (u + 42) T (t + 1) (mI N (u + 2))) (hH : HR N (t + 29) u) (e : ∀ q, UsedC t u T q ∨ q = t + 171 ∨ q = t + 275 ∨ q = t + 276 ∨ q = u + 1 ∨ q = u + 41 → Ea M N q) (s16 : mI N t 16 = mI N u 1) (et : ∀ k, k = 17 ∨ k = 18 → mI N t k = mI M t k) (eu : ∀ k, k ∈ ([11, 13, 18, 20, 64, 67] : List Nat) → mI N u k = mI M u k) : InvL Λ t u T N := by
  refine h.upd hS hH (h.2.2.2.2.2.2.1.upd s16 (et 17 (by omega)) (et 18 (by omega)) (by rw [(e (t + 171) (by omega)).1]) (eu 11 (by decide)) (eu 64 (by decide)) (eu 18 (by decide)) (eu 67 (by decide)) (fun i hi => ?_) (e _ (by omega)).1 (e _ (by omega)).1) (fun q hq => e q (Or.inl hq)) (by rw [(e (t + 171) (by omega)).1]) (eu 13 (by decide)) (eu 20 (by decide))
  rw [(e (t + 275) (by omega)).1, (e (u + 1) (by omega)).1]
  exact h.2.2.2.2.2.2.1.2.2.2.2.1 i hi
def RfM (t j : Nat) (M : Mem) : Mem := sI (sI M t 16 (rfC j)) (t + 275) j (mI M (t + 275) j + 1)
theorem st_ref {Λ : Lam} {t u T j : Nat} {M : Mem} {CL : Option (Int32 × Mem)} {RF : Mem → Option (Int32 × Mem)} (h : InvL Λ t u T M) (hj : j < 5) (hc : CL = bdM (FX11_refuse t (rfC j) M) (fun r N => some (r, N))) (hr : RF (RfM t j M) = bdM (FX12_tell u (rfC j) (sI (RfM t j M) u 0 0)) (fun r N => some (r, N))) : ∃ v M1 M2, CL = some (v, M1) ∧ RF M1 = some (v, M2) ∧ Inv t u T M2 := by
  obtain ⟨M1, M2, q1, q2, q3⟩ := h.refuse hj
  have e := refuse_eq (t := t) (j := j) (c := rfC j) (M := M) hj rfl
  rw [q1] at e
  have hM1 : M1 = RfM t j M := (Prod.mk.inj (Option.some.inj e)).2
  subst hM1
  refine ⟨rfC j, RfM t j M, M2, ?_, ?_, Λ, q3⟩
  · rw [hc, q1]; rfl
  · rw [hr, q2]; rfl
theorem bo {ρ τ : Type} {g : Option (ρ × Mem)} {k : ρ → Mem → Option τ} {r : ρ} {N : Mem} (h : g = some (r, N)) : bdM g k = k r N := by rw [h]; rfl
theorem card_cases (p : Int32) : (∃ c, c < 52 ∧ p = Int32.ofNat c) ∨ ¬ (0 ≤ p.toInt ∧ p.toInt < 52) := by
  by_cases h : 0 ≤ p.toInt ∧ p.toInt < 52
  · obtain ⟨c, hc, rfl⟩ := nn_exi (i := p) h.1
    rw [nn_int hc] at h
    exact Or.inl ⟨c, by omega, rfl⟩
  · exact Or.inr h
theorem RfM_r {t u j : Nat} {M : Mem} (hu : u = t + 277) : mI (sI (RfM t j M) u 0 0) (u + 2) = mI M (u + 2) := by
  unfold RfM
  funext k
  simp (disch := omega) only [mI_n1, mI_n2, mI_e, mJ_n1, mJ_n2, mJ_e, mI_sJ, mI_sR, mJ_sI, mJ_sR, mR_sI, mR_sJ]
theorem st_hold : St_hold Inv := by
  rintro t u T M p1 ⟨Λ, h⟩
  have hu := h.1
  have hT := h.2.1
  obtain ⟨a1, a2, a3⟩ := h.2.2.1.2.2.1
  rcases card_cases p1 with ⟨c, hc, rfl⟩ | hno
  rotate_left
  · refine st_ref (j := 0) h (by decide) ?_ ?_
    · unfold FX11_hold
      rw [isCard_eq, if_neg hno]; rfl
    · unfold FX12_hold nm; simp only []
      rw [isCardM, if_neg hno]; rfl
  have k1 := isCard_nn hc
  have k2 : FX12_isCard (Int32.ofNat c) = some 1 := by rw [isCardM, nn_int (by omega), if_pos (by omega)]
  have hH1 : FX11_has (mJ M (t + 1) 5) (Int32.ofNat c) = some (if mI M (u + 2) (130 + c) = 1 then 1 else 0) := by
    rw [a1.has hc]; simp
  by_cases hh : mI M (u + 2) (130 + c) = 1
  · refine st_ref (j := 2) h (by decide) ?_ ?_
    · unfold FX11_hold
      rw [k1, hH1, if_pos hh]; rfl
    · unfold FX12_hold nm; simp only []
      rw [k2, isHeld_nn u _ hc, RfM_r hu, if_pos hh]; rfl
  have hcnt : FJ_Long_bitCount (mJ M (t + 1) 5) = some (Int32.ofNat (cs (fun c => decide (mI M (u + 2) (130 + c) = 1))).length) := a1.count
  by_cases h6 : (cs (fun c => decide (mI M (u + 2) (130 + c) = 1))).length = 6
  · refine st_ref (j := 3) h (by decide) ?_ ?_
    · unfold FX11_hold
      rw [k1, hH1, if_neg hh, hcnt, h6]; rfl
    · unfold FX12_hold nm; simp only []
      rw [k2, isHeld_nn u _ hc, RfM_r hu, if_neg hh, heldOnes_eq u _ (fun c hc => by rw [RfM_r hu]; exact a2 c hc), RfM_r hu, h6]; rfl
  · have hlt : (cs (fun c => decide (mI M (u + 2) (130 + c) = 1))).length < 6 := by omega
    generalize hlen : (cs (fun c => decide (mI M (u + 2) (130 + c) = 1))).length = n at hcnt hlt
    have hins : (cs (fun d => decide (mI M (u + 2) (130 + d) = 1) || decide (d = c))).length = n + 1 := by
      rw [cs_ins _ c (by simpa using hh) hc, hlen]
    have b1 : Bs (mJ M (t + 1) 5 ||| ((1 : Int64) <<< ((Int32.ofNat c).toInt64 &&& 63))) (fun d => decide (mI M (u + 2) (130 + d) = 1) || decide (d = c)) := a1.or (Bs.one hc)
    generalize hv : mJ M (t + 1) 5 ||| ((1 : Int64) <<< ((Int32.ofNat c).toInt64 &&& 63)) = held at b1
    generalize hN : sI (sI (sI (sI (sJ M (t + 1) 5 held) t 16 0) u 0 0) (u + 2) (130 + c) 1) u 1 0 = N
    have rN : ∀ k, mI N (u + 2) k = if k = 130 + c then 1 else mI M (u + 2) k := fun k => by
      rw [← hN, mI_n1 (by omega)]
      by_cases z : k = 130 + c
      · rw [if_pos z, z, mI_e]
      · rw [if_neg z]; simp (disch := omega) only [mI_n1, mI_n2, mI_e, mJ_n1, mJ_n2, mJ_e, mI_sJ, mI_sR, mJ_sI, mJ_sR, mR_sI, mR_sJ]
    have hld : ∀ d, d < 52 → decide (mI N (u + 2) (130 + d) = 1) = (decide (mI M (u + 2) (130 + d) = 1) || decide (d = c)) := fun d hd => by
      rw [rN]
      by_cases z : d = c
      · rw [if_pos (by omega)]; simp [z]
      · rw [if_neg (by omega)]; simp [z]
    have hcs : cs (fun d => decide (mI N (u + 2) (130 + d) = 1)) = cs (fun d => decide (mI M (u + 2) (130 + d) = 1) || decide (d = c)) := by
      unfold cs
      exact List.filter_congr (fun d hd => hld d (List.mem_range.mp hd))
    have b01 : ∀ d, d < 52 → mI N (u + 2) (130 + d) = 0 ∨ mI N (u + 2) (130 + d) = 1 := fun d hd => by
      rw [rN]
      by_cases z : 130 + d = 130 + c
      · rw [if_pos z]; exact Or.inr rfl
      · rw [if_neg z]; exact a2 d hd
    have E0 : ∀ q, q ≠ t → q ≠ t + 1 → q ≠ u → q ≠ u + 2 → Ea M N q := fun q a b c d => by rw [← hN]; (repeat (first | exact Ea.rf _ _ | refine Ea.tr ?_ (Ea_sI (by omega)) | refine Ea.tr ?_ (Ea_sJ (by omega))))
    refine ⟨Int32.ofNat (n + 1), sI (sJ M (t + 1) 5 held) t 16 0, N, ?_, ?_, Λ, ?_⟩
    · apply So.eq
      unfold FX11_hold
      refine So.bindE k1 ?_
      rw [if_pos (by decide)]
      refine So.bindE (hH1.trans (by rw [if_neg hh])) ?_
      rw [if_pos rfl]
      refine So.bindE hcnt ?_
      rw [if_pos (show Int32.ofNat n < 6 from (nn_lt (b := 6) (by omega) (by omega)).mpr hlt)]
      refine So.bindE (bit_nn hc) (So_nm ?_)
      rw [hv, mJ_e]
      refine So.bindE (b1.count.trans (by rw [hins])) ?_
      exact So.ok rfl
    · apply So.eq
      unfold FX12_hold
      refine So_nm (So.bindE k2 ?_)
      rw [if_pos (by decide), isHeld_nn u _ hc]
      have x1 : mI (sI (sI (sJ M (t + 1) 5 held) t 16 0) u 0 0) (u + 2) = mI M (u + 2) := by funext k; simp (disch := omega) only [mI_n1, mI_n2, mI_e, mJ_n1, mJ_n2, mJ_e, mI_sJ, mI_sR, mJ_sI, mJ_sR, mR_sI, mR_sJ]
      rw [x1, if_neg hh]
      refine So.bindE rfl ?_
      rw [if_pos rfl, heldOnes_eq u _ (fun c hc => by rw [x1]; exact a2 c hc), x1, hlen]
      refine So.bindE rfl ?_
      rw [if_pos (show ¬ Int32.ofNat n = 6 from fun z => by have := (nn_eq (b := 6) (by omega) (by omega)).mp z; omega), show (130 : Int32) + Int32.ofNat c = Int32.ofNat (130 + c) from nn_add 130 c, nn_ix (by omega)]
      refine So_gd (inb_nn (by omega) (by decide)) (So_nm ?_)
      have x2 : mI (sI (sI (sI (sJ M (t + 1) 5 held) t 16 0) u 0 0) (u + 2) (130 + c) 1) (u + 2) = mI N (u + 2) := by rw [← hN]; funext k; rw [mI_n1 (b := u + 2) (a := u) (by omega)]
      rw [heldOnes_eq u _ (fun c hc => by rw [x2]; exact b01 c hc), x2, hcs, hins]
      refine So.bindE rfl ?_
      rw [bo (tell_pos (by rw [nn_int (by omega)]; omega)), hN]
      exact So.ok rfl
    · have hS : SR Λ N (u + 42) T (t + 1) (mI N (u + 2)) := by
        refine h.2.2.1.upd (fun q hq => E0 q (by omega) (by omega) (by omega) (by omega)) (fun q a b => E0 q (by omega) (by omega) (by omega) (by omega)) (by rw [← hN]; simp (disch := omega) only [mI_n1, mI_n2, mI_e, mJ_n1, mJ_n2, mJ_e, mI_sJ, mI_sR, mJ_sI, mJ_sR, mR_sI, mR_sJ]) (by rw [← hN]; simp (disch := omega) only [mI_n1, mI_n2, mI_e, mJ_n1, mJ_n2, mJ_e, mI_sJ, mI_sR, mJ_sI, mJ_sR, mR_sI, mR_sJ]) (fun k hk => by rw [rN, if_neg (by omega)]) ⟨?_, b01, by rw [hcs, hins]; omega⟩ ?_
        · have : mJ N (t + 1) 5 = held := by rw [← hN]; simp (disch := omega) only [mI_n1, mI_n2, mI_e, mJ_n1, mJ_n2, mJ_e, mI_sJ, mI_sR, mJ_sI, mJ_sR, mR_sI, mR_sJ]
          rw [this]; exact b1.congr (fun d hd => (hld d hd).symm)
        · obtain ⟨m, s1', s2, s3, s4⟩ := h.2.2.1.2.2.2.1
          refine ⟨m, s1', by rw [← hN]; simp (disch := omega) only [mI_n1, mI_n2, mI_e, mJ_n1, mJ_n2, mJ_e, mI_sJ, mI_sR, mJ_sI, mJ_sR, mR_sI, mR_sJ]; exact s2, by rw [rN, if_neg (by omega)]; exact s3, fun k hk => ?_⟩
          rw [rN, rN, if_neg (by omega), if_neg (by omega), (E0 (t + 1 + 5) (by omega) (by omega) (by omega) (by omega)).1, (E0 (t + 1 + 6) (by omega) (by omega) (by omega) (by omega)).1]
          exact s4 k hk
      exact h.fin hS (h.hr (fun q a b => E0 q (by omega) (by omega) (by omega) (by omega)) (E0 _ (by omega) (by omega) (by omega) (by omega)).1 (E0 _ (by omega) (by omega) (by omega) (by omega)).1 (by rw [← hN]; simp (disch := omega) only [mI_n1, mI_n2, mI_e, mJ_n1, mJ_n2, mJ_e, mI_sJ, mI_sR, mJ_sI, mJ_sR, mR_sI, mR_sJ])) (fun q hq => E0 q (by unfold UsedC at hq; omega) (by unfold UsedC at hq; omega) (by unfold UsedC at hq; omega) (by unfold UsedC at hq; omega)) (by rw [← hN]; simp (disch := omega) only [mI_n1, mI_n2, mI_e, mJ_n1, mJ_n2, mJ_e, mI_sJ, mI_sR, mJ_sI, mJ_sR, mR_sI, mR_sJ]) (fun k hk => by rw [← hN]; simp (disch := omega) only [mI_n1, mI_n2, mI_e, mJ_n1, mJ_n2, mJ_e, mI_sJ, mI_sR, mJ_sI, mJ_sR, mR_sI, mR_sJ]) (fun k hk => by
        have k0 : k ≠ 0 := fun z => by rw [z] at hk; exact absurd hk (by decide)
        have k1 : k ≠ 1 := fun z => by rw [z] at hk; exact absurd hk (by decide)
        rw [← hN]; simp (disch := omega) only [mI_n1, mI_n2, mI_e, mJ_n1, mJ_n2, mJ_e, mI_sJ, mI_sR, mJ_sI, mJ_sR, mR_sI, mR_sJ])
theorem st_drop : St_drop Inv := by
  rintro t u T M ⟨Λ, h⟩
  have hu := h.1
  have hT := h.2.1
  obtain ⟨a1, a2, a3⟩ := h.2.2.1.2.2.1
  have x1 : mI (sI (sJ M (t + 1) 5 0) u 0 0) (u + 2) = mI M (u + 2) := by funext k; simp (disch := omega) only [mI_n1, mI_n2, mI_e, mJ_n1, mJ_n2, mJ_e, mI_sJ, mI_sR, mJ_sI, mJ_sR, mR_sI, mR_sJ]
  have run : So (FX12_drop u (sJ M (t + 1) 5 0)) (fun r => r.1 = Int32.ofNat (cs (fun c => decide (mI M (u + 2) (130 + c) = 1))).length ∧ Eo (fun q => q = u + 2) (sI (sJ M (t + 1) 5 0) u 0 0) r.2 ∧ (∀ c, c < 52 → mI r.2 (u + 2) (130 + c) = 0) ∧ ∀ k, (k < 130 ∨ 182 ≤ k) → mI r.2 (u + 2) k = mI M (u + 2) k) := by
    unfold FX12_drop
    refine So_nm ?_
    rw [heldOnes_eq u _ (fun c hc => by rw [x1]; exact a2 c hc), x1]
    refine So.bindE rfl ?_
    refine loop_for 52 (by decide) (fun i N => Eo (fun q => q = u + 2) (sI (sJ M (t + 1) 5 0) u 0 0) N ∧ (∀ c, c < i → mI N (u + 2) (130 + c) = 0) ∧ ∀ k, (k < 130 ∨ 182 ≤ k) → mI N (u + 2) k = mI M (u + 2) k) _ ⟨Eo.rf, fun c hc => absurd hc (by omega), fun k _ => by rw [x1]⟩ (fun N rec hI => ?_) (fun i N rec hi hI hr => ?_)
    · exact So.ite (fun _ => So.ok ⟨rfl, hI⟩) (fun hc => absurd hc (ge_self 52))
    · obtain ⟨e1, e2, e3⟩ := hI
      refine So.ite (fun hc => absurd hc (nle hi (by decide))) (fun _ => ?_)
      rw [show (130 : Int32) + Int32.ofNat i = Int32.ofNat (130 + i) from nn_add 130 i, nn_ix (by omega)]
      refine So_gd (inb_nn (by omega) (by decide)) (So_nm (So_nm (hr _ ⟨e1.tr (Eo_sI rfl), fun c hc => ?_, fun k hk => ?_⟩)))
      · by_cases z : c = i
        · rw [z, mI_e]
        · rw [mI_n2 (by omega)]; exact e2 c (by omega)
      · rw [mI_n2 (by omega)]; exact e3 k hk
  obtain ⟨⟨v, N⟩, r1, r2, r3, r4, r5⟩ := run
  have r2 : v = _ := r2
  have r3 : Eo (fun q => q = u + 2) (sI (sJ M (t + 1) 5 0) u 0 0) N := r3
  have r4 : ∀ c, c < 52 → mI N (u + 2) (130 + c) = 0 := r4
  have r5 : ∀ k, (k < 130 ∨ 182 ≤ k) → mI N (u + 2) k = mI M (u + 2) k := r5
  refine ⟨v, sJ M (t + 1) 5 0, N, ?_, r1, Λ, ?_⟩
  · unfold FX11_drop
    rw [a1.count, r2]; rfl
  · have E0 : ∀ q, q ≠ t + 1 → q ≠ u → q ≠ u + 2 → Ea M N q := fun q a b c => ((Ea_sJ (by omega)).tr (Ea_sI (by omega))).tr (r3 q (by omega))
    have f1 : ∀ k, mI N (t + 1) k = mI M (t + 1) k := fun k => by rw [(r3 (t + 1) (by omega)).1]; simp (disch := omega) only [mI_n1, mI_n2, mI_e, mJ_n1, mJ_n2, mJ_e, mI_sJ, mI_sR, mJ_sI, mJ_sR, mR_sI, mR_sJ]
    have j1 : mJ N (t + 1) 5 = 0 := by rw [(r3 (t + 1) (by omega)).2.1]; simp (disch := omega) only [mI_n1, mI_n2, mI_e, mJ_n1, mJ_n2, mJ_e, mI_sJ, mI_sR, mJ_sI, mJ_sR, mR_sI, mR_sJ]
    have fu : ∀ k, k ≠ 0 → mI N u k = mI M u k := fun k hk => by rw [(r3 u (by omega)).1]; simp (disch := omega) only [mI_n1, mI_n2, mI_e, mJ_n1, mJ_n2, mJ_e, mI_sJ, mI_sR, mJ_sI, mJ_sR, mR_sI, mR_sJ]
    have hS : SR Λ N (u + 42) T (t + 1) (mI N (u + 2)) := by
      refine h.2.2.1.upd (fun q hq => E0 q (by omega) (by omega) (by omega)) (fun q a b => E0 q (by omega) (by omega) (by omega)) (f1 7) (f1 8) (fun k hk => r5 k (by omega)) ⟨?_, fun c hc => Or.inl (r4 c hc), ?_⟩ ?_
      · rw [j1]; exact Bs.zero.congr (fun c hc => by rw [r4 c hc]; rfl)
      · have : cs (fun c => decide (mI N (u + 2) (130 + c) = 1)) = [] := by
          unfold cs
          exact List.filter_eq_nil_iff.mpr (fun c hc => by rw [r4 c (List.mem_range.mp hc)]; decide)
        rw [this]; simp
      · obtain ⟨m, s1', s2, s3, s4⟩ := h.2.2.1.2.2.2.1
        refine ⟨m, s1', by rw [f1]; exact s2, by rw [r5 0 (by omega)]; exact s3, fun k hk => ?_⟩
        rw [r5 _ (by omega), r5 _ (by omega), (E0 (t + 1 + 5) (by omega) (by omega) (by omega)).1, (E0 (t + 1 + 6) (by omega) (by omega) (by omega)).1]
        exact s4 k hk
    refine h.fin hS (h.hr (fun q a b => E0 q (by omega) (by omega) (by omega)) (E0 _ (by omega) (by omega) (by omega)).1 (E0 _ (by omega) (by omega) (by omega)).1 (fu 8 (by decide))) (fun q hq => E0 q (by unfold UsedC at hq; omega) (by unfold UsedC at hq; omega) (by unfold UsedC at hq; omega)) ?_ (fun k hk => by rw [(E0 t (by omega) (by omega) (by omega)).1]) (fun k hk => fu k (fun z => by rw [z] at hk; exact absurd hk (by decide)))
    rw [fu 1 (by decide), (E0 t (by omega) (by omega) (by omega)).1]; exact h.2.2.2.2.2.2.1.1
