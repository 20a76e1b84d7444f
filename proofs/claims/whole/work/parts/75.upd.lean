/-! ===== the invariant goes on ===== -/
theorem mI_n1 {M : Mem} {a k b j : Nat} {v : Int32} (h : b ≠ a) : mI (sI M a k v) b j = mI M b j := by rw [mI_sI, if_neg (fun z => h z.1)]
theorem mI_n2 {M : Mem} {a k b j : Nat} {v : Int32} (h : j ≠ k) : mI (sI M a k v) b j = mI M b j := by rw [mI_sI, if_neg (fun z => h z.2)]
theorem mI_e {M : Mem} {a k : Nat} {v : Int32} : mI (sI M a k v) a k = v := by rw [mI_sI, if_pos ⟨rfl, rfl⟩]
theorem mJ_n1 {M : Mem} {a k b j : Nat} {v : Int64} (h : b ≠ a) : mJ (sJ M a k v) b j = mJ M b j := by rw [mJ_sJ, if_neg (fun z => h z.1)]
theorem mJ_n2 {M : Mem} {a k b j : Nat} {v : Int64} (h : j ≠ k) : mJ (sJ M a k v) b j = mJ M b j := by rw [mJ_sJ, if_neg (fun z => h z.2)]
theorem mJ_e {M : Mem} {a k : Nat} {v : Int64} : mJ (sJ M a k v) a k = v := by rw [mJ_sJ, if_pos ⟨rfl, rfl⟩]
def UsedC (t u T q : Nat) : Prop := (t + 10 ≤ q ∧ q < t + 29) ∨ q = t + 172 ∨ q = t + 174 ∨ q = t + 175 ∨ (t + 179 ≤ q ∧ q < t + 203) ∨ q = u + 3 ∨ q = u + 4 ∨ q = u + 9 ∨ (u + 15 ≤ q ∧ q < u + 18) ∨ q = u + 39 ∨ (u + 42 ≤ q ∧ q < T)
theorem InvL.upd {Λ : Lam} {t u T : Nat} {M N : Mem} (h : InvL Λ t u T M) (hS : SR Λ N (u + 42) T (t + 1) (mI N (u + 2))) (hH : HR N (t + 29) u) (hM : MSr N t u) (e : ∀ q, UsedC t u T q → Ea M N q) (e2 : mI N (t + 171) 2 = mI M (t + 171) 2) (e13 : mI N u 13 = mI M u 13) (e20 : mI N u 20 = mI M u 20) : InvL Λ t u T N := by
  obtain ⟨h1, h2, h3, h4, h5, h6, h7, h8, h9, h10⟩ := h
  have eT : ∀ q, u + 42 ≤ q → q < T → Ea M N q := fun q a b => e q (by unfold UsedC; omega)
  have g : ∀ q, UsedC t u T q → mI N q = mI M q := fun q a => (e q a).1
  refine ⟨h1, h2, hS, h4.keep (fun q a b => e q (by unfold UsedC; omega)) (g _ (by unfold UsedC; omega)) (g _ (by unfold UsedC; omega)) eT (Nat.le_refl _), hH, h6.keepE e2 (g _ (by unfold UsedC; omega)) e13 (g _ (by unfold UsedC; omega)), hM, h8.keep (fun q a b => e q (by unfold UsedC; omega)) eT (Nat.le_refl _), h9.keep (fun q a b => e q (by unfold UsedC; omega)) eT (Nat.le_refl _), ?_⟩
  obtain ⟨k1, k2, k3, k4⟩ := h10
  exact ⟨k1.keepE (e _ (by unfold UsedC; omega)).2.1 (e _ (by unfold UsedC; omega)).2.1 (e _ (by unfold UsedC; omega)).2.1 (e _ (by unfold UsedC; omega)).2.1, by rw [(e (t + 174) (by unfold UsedC; omega)).2.2.2]; exact k2, by rw [(e (t + 175) (by unfold UsedC; omega)).2.2.2]; exact k3, by rw [e20]; exact k4⟩
theorem MSr.upd {M N : Mem} {t u : Nat} (h : MSr M t u) (a16 : mI N t 16 = mI N u 1) (e17 : mI N t 17 = mI M t 17) (e18 : mI N t 18 = mI M t 18) (e3 : mI N (t + 171) 3 = mI M (t + 171) 3) (u11 : mI N u 11 = mI M u 11) (u64 : mI N u 64 = mI M u 64) (u18 : mI N u 18 = mI M u 18) (u67 : mI N u 67 = mI M u 67) (hr : ∀ j, j < 5 → mI N (t + 275) j = mI N (u + 1) (rfJ j)) (e276 : mI N (t + 276) = mI M (t + 276)) (e41 : mI N (u + 41) = mI M (u + 41)) : MSr N t u := by
  obtain ⟨m1, m2, m3, m4, m5, m6⟩ := h
  refine ⟨a16, by rw [e17, u11]; exact m2, by rw [e18, u64]; exact m3, by rw [e3, u18]; exact m4, hr, ?_⟩
  unfold DrR; rw [u67, e276, e41]; exact m6
/-- the State and what can be undone, as they were -/
theorem InvL.SHk {Λ : Lam} {t u T : Nat} {M N : Mem} (h : InvL Λ t u T M) (e : ∀ q, (t + 1 ≤ q ∧ q < t + 96) ∨ (u + 2 ≤ q ∧ q < u + 7) ∨ (u + 42 ≤ q ∧ q < T) → Ea M N q) (e8 : mI N u 8 = mI M u 8) : SR Λ N (u + 42) T (t + 1) (mI N (u + 2)) ∧ HR N (t + 29) u := by
  obtain ⟨h1, h2, h3, h4, h5, -⟩ := h
  refine ⟨?_, ?_⟩
  · rw [(e (u + 2) (by omega)).1]
    exact h3.keep (fun q a b => e q (by omega)) (fun q a b => e q (by omega)) (Nat.le_refl _)
  · exact h5.keep (fun q a b => e q (by omega)) (e _ (by omega)).1 (e _ (by omega)).1 e8
def rfC (j : Nat) : Int32 := ([-1, -2, -3, -5, -6] : List Int32).getD j 0
theorem rfC_k : ∀ j, j < 5 → (1 ≤ rfJ j ∧ rfJ j < 7) ∧ -(rfC j) = Int32.ofNat (rfJ j) ∧ (rfC j).toInt < 0 := by decide
theorem rfJ_inj : ∀ i, i < 5 → ∀ j, j < 5 → (rfJ i = rfJ j ↔ i = j) := by decide
/-- refused on both sides -/
theorem InvL.refuse {Λ : Lam} {t u T j : Nat} {M : Mem} (h : InvL Λ t u T M) (hj : j < 5) : ∃ M1 M2, FX11_refuse t (rfC j) M = some (rfC j, M1) ∧ FX12_tell u (rfC j) (sI M1 u 0 0) = some (rfC j, M2) ∧ InvL Λ t u T M2 := by
  have hu := h.1
  have hT := h.2.1
  obtain ⟨k1, k2, k3⟩ := rfC_k j hj
  refine ⟨_, _, refuse_eq hj rfl, tell_neg k1 k2 k3, ?_⟩
  have v275 : mI M (t + 275) j = mI M (u + 1) (rfJ j) := h.2.2.2.2.2.2.1.2.2.2.2.1 j hj
  generalize hN : sI (sI (sI (sI (sI M t 16 (rfC j)) (t + 275) j (mI M (t + 275) j + 1)) u 0 0) u 1 (rfC j)) (u + 1) (rfJ j) (mI (sI (sI (sI M t 16 (rfC j)) (t + 275) j (mI M (t + 275) j + 1)) u 0 0) (u + 1) (rfJ j) + 1) = N
  have Eq : ∀ q, q ≠ t → q ≠ t + 275 → q ≠ u → q ≠ u + 1 → Ea M N q := fun q a b c d => by rw [← hN]; (repeat (first | exact Ea.rf _ _ | refine Ea.tr ?_ (Ea_sI (by omega)) | refine Ea.tr ?_ (Ea_sJ (by omega))))
  obtain ⟨s1', s2⟩ := h.SHk (N := N) (fun q hq => Eq q (by omega) (by omega) (by omega) (by omega)) (by rw [← hN]; simp (disch := omega) only [mI_n1, mI_n2, mI_e, mJ_n1, mJ_n2, mJ_e, mI_sJ, mI_sR, mJ_sI, mJ_sR, mR_sI, mR_sJ])
  refine h.upd s1' s2 (h.2.2.2.2.2.2.1.upd ?_ ?_ ?_ ?_ ?_ ?_ ?_ ?_ (fun i hi => ?_) (Eq _ (by omega) (by omega) (by omega) (by omega)).1 (Eq _ (by omega) (by omega) (by omega) (by omega)).1) (fun q hq => Eq q (by unfold UsedC at hq; omega) (by unfold UsedC at hq; omega) (by unfold UsedC at hq; omega) (by unfold UsedC at hq; omega)) ?_ ?_ ?_
  · rw [← hN]; simp (disch := omega) only [mI_n1, mI_n2, mI_e, mJ_n1, mJ_n2, mJ_e, mI_sJ, mI_sR, mJ_sI, mJ_sR, mR_sI, mR_sJ]
  · rw [← hN]; simp (disch := omega) only [mI_n1, mI_n2, mI_e, mJ_n1, mJ_n2, mJ_e, mI_sJ, mI_sR, mJ_sI, mJ_sR, mR_sI, mR_sJ]
  · rw [← hN]; simp (disch := omega) only [mI_n1, mI_n2, mI_e, mJ_n1, mJ_n2, mJ_e, mI_sJ, mI_sR, mJ_sI, mJ_sR, mR_sI, mR_sJ]
  · rw [← hN]; simp (disch := omega) only [mI_n1, mI_n2, mI_e, mJ_n1, mJ_n2, mJ_e, mI_sJ, mI_sR, mJ_sI, mJ_sR, mR_sI, mR_sJ]
  · rw [← hN]; simp (disch := omega) only [mI_n1, mI_n2, mI_e, mJ_n1, mJ_n2, mJ_e, mI_sJ, mI_sR, mJ_sI, mJ_sR, mR_sI, mR_sJ]
  · rw [← hN]; simp (disch := omega) only [mI_n1, mI_n2, mI_e, mJ_n1, mJ_n2, mJ_e, mI_sJ, mI_sR, mJ_sI, mJ_sR, mR_sI, mR_sJ]
  · rw [← hN]; simp (disch := omega) only [mI_n1, mI_n2, mI_e, mJ_n1, mJ_n2, mJ_e, mI_sJ, mI_sR, mJ_sI, mJ_sR, mR_sI, mR_sJ]
  · rw [← hN]; simp (disch := omega) only [mI_n1, mI_n2, mI_e, mJ_n1, mJ_n2, mJ_e, mI_sJ, mI_sR, mJ_sI, mJ_sR, mR_sI, mR_sJ]
  · have v := h.2.2.2.2.2.2.1.2.2.2.2.1 i hi
    rw [← hN]
    by_cases z : i = j
    · subst z
      simp (disch := omega) only [mI_n1, mI_n2, mI_e, mJ_n1, mJ_n2, mJ_e, mI_sJ, mI_sR, mJ_sI, mJ_sR, mR_sI, mR_sJ]
      rw [v]
    · have z2 : rfJ i ≠ rfJ j := fun y => z ((rfJ_inj i hi j hj).mp y)
      simp (disch := omega) only [mI_n1, mI_n2, mI_e, mJ_n1, mJ_n2, mJ_e, mI_sJ, mI_sR, mJ_sI, mJ_sR, mR_sI, mR_sJ]
      exact v
  · rw [← hN]; simp (disch := omega) only [mI_n1, mI_n2, mI_e, mJ_n1, mJ_n2, mJ_e, mI_sJ, mI_sR, mJ_sI, mJ_sR, mR_sI, mR_sJ]
  · rw [← hN]; simp (disch := omega) only [mI_n1, mI_n2, mI_e, mJ_n1, mJ_n2, mJ_e, mI_sJ, mI_sR, mJ_sI, mJ_sR, mR_sI, mR_sJ]
  · rw [← hN]; simp (disch := omega) only [mI_n1, mI_n2, mI_e, mJ_n1, mJ_n2, mJ_e, mI_sJ, mI_sR, mJ_sI, mJ_sR, mR_sI, mR_sJ]
/-- granted on both sides: the State may have changed -/
theorem InvL.grant {Λ : Lam} {t u T : Nat} {M N : Mem} (h : InvL Λ t u T M) (hS : SR Λ N (u + 42) T (t + 1) (mI N (u + 2))) (hH : HR N (t + 29) u) (e : ∀ q, UsedC t u T q → Ea M N q) (e' : ∀ q, q = t + 171 ∨ q = t + 275 ∨ q = t + 276 ∨ q = u + 1 ∨ q = u + 41 → Ea M N q) (et : ∀ k, k = 16 ∨ k = 17 ∨ k = 18 → mI N t k = mI M t k) (eu : ∀ k, k ∈ ([1, 11, 13, 18, 20, 64, 67] : List Nat) → mI N u k = mI M u k) : InvL Λ t u T (sI (sI N t 16 0) u 1 0) := by
  have hu := h.1
  have hT := h.2.1
  have Eq : ∀ q, q ≠ t → q ≠ u → Ea N (sI (sI N t 16 0) u 1 0) q := fun q a b => by (repeat (first | exact Ea.rf _ _ | refine Ea.tr ?_ (Ea_sI (by omega)) | refine Ea.tr ?_ (Ea_sJ (by omega))))
  have hS' : SR Λ (sI (sI N t 16 0) u 1 0) (u + 42) T (t + 1) (mI (sI (sI N t 16 0) u 1 0) (u + 2)) := by
    rw [(Eq (u + 2) (by omega) (by omega)).1]
    exact hS.keep (fun q a b => Eq q (by omega) (by omega)) (fun q a b => Eq q (by omega) (by omega)) (Nat.le_refl _)
  have hH' : HR (sI (sI N t 16 0) u 1 0) (t + 29) u := hH.keep (fun q a b => Eq q (by omega) (by omega)) (Eq _ (by omega) (by omega)).1 (Eq _ (by omega) (by omega)).1 (by simp (disch := omega) only [mI_n1, mI_n2, mI_e, mJ_n1, mJ_n2, mJ_e, mI_sJ, mI_sR, mJ_sI, mJ_sR, mR_sI, mR_sJ])
  refine h.upd hS' hH' (h.2.2.2.2.2.2.1.upd ?_ ?_ ?_ ?_ ?_ ?_ ?_ ?_ (fun i hi => ?_) ?_ ?_) (fun q hq => (e q hq).tr (Eq q (by unfold UsedC at hq; omega) (by unfold UsedC at hq; omega))) ?_ ?_ ?_
  · simp (disch := omega) only [mI_n1, mI_n2, mI_e, mJ_n1, mJ_n2, mJ_e, mI_sJ, mI_sR, mJ_sI, mJ_sR, mR_sI, mR_sJ]
  · simp (disch := omega) only [mI_n1, mI_n2, mI_e, mJ_n1, mJ_n2, mJ_e, mI_sJ, mI_sR, mJ_sI, mJ_sR, mR_sI, mR_sJ]; exact et 17 (by omega)
  · simp (disch := omega) only [mI_n1, mI_n2, mI_e, mJ_n1, mJ_n2, mJ_e, mI_sJ, mI_sR, mJ_sI, mJ_sR, mR_sI, mR_sJ]; exact et 18 (by omega)
  · simp (disch := omega) only [mI_n1, mI_n2, mI_e, mJ_n1, mJ_n2, mJ_e, mI_sJ, mI_sR, mJ_sI, mJ_sR, mR_sI, mR_sJ]; rw [(e' (t + 171) (by omega)).1]
  · simp (disch := omega) only [mI_n1, mI_n2, mI_e, mJ_n1, mJ_n2, mJ_e, mI_sJ, mI_sR, mJ_sI, mJ_sR, mR_sI, mR_sJ]; exact eu 11 (by decide)
  · simp (disch := omega) only [mI_n1, mI_n2, mI_e, mJ_n1, mJ_n2, mJ_e, mI_sJ, mI_sR, mJ_sI, mJ_sR, mR_sI, mR_sJ]; exact eu 64 (by decide)
  · simp (disch := omega) only [mI_n1, mI_n2, mI_e, mJ_n1, mJ_n2, mJ_e, mI_sJ, mI_sR, mJ_sI, mJ_sR, mR_sI, mR_sJ]; exact eu 18 (by decide)
  · simp (disch := omega) only [mI_n1, mI_n2, mI_e, mJ_n1, mJ_n2, mJ_e, mI_sJ, mI_sR, mJ_sI, mJ_sR, mR_sI, mR_sJ]; exact eu 67 (by decide)
  · simp (disch := omega) only [mI_n1, mI_n2, mI_e, mJ_n1, mJ_n2, mJ_e, mI_sJ, mI_sR, mJ_sI, mJ_sR, mR_sI, mR_sJ]
    rw [(e' (t + 275) (by omega)).1, (e' (u + 1) (by omega)).1]
    exact h.2.2.2.2.2.2.1.2.2.2.2.1 i hi
  · rw [(Eq _ (by omega) (by omega)).1, (e' (t + 276) (by omega)).1]
  · rw [(Eq _ (by omega) (by omega)).1, (e' (u + 41) (by omega)).1]
  · simp (disch := omega) only [mI_n1, mI_n2, mI_e, mJ_n1, mJ_n2, mJ_e, mI_sJ, mI_sR, mJ_sI, mJ_sR, mR_sI, mR_sJ]; rw [(e' (t + 171) (by omega)).1]
  · simp (disch := omega) only [mI_n1, mI_n2, mI_e, mJ_n1, mJ_n2, mJ_e, mI_sJ, mI_sR, mJ_sI, mJ_sR, mR_sI, mR_sJ]; exact eu 13 (by decide)
  · simp (disch := omega) only [mI_n1, mI_n2, mI_e, mJ_n1, mJ_n2, mJ_e, mI_sJ, mI_sR, mJ_sI, mJ_sR, mR_sI, mR_sJ]; exact eu 20 (by decide)
/-! ===== what is only read ===== -/
theorem st_status : St_status Inv := by
  rintro t u T M ⟨Λ, h⟩
  exact ⟨_, _, rfl, by show some (mI (sI M u 0 0) u 1, _) = _; rw [mI_n2 (by decide), ← h.2.2.2.2.2.2.1.1], Λ, h.u0 0⟩
theorem st_jokers : St_jokers Inv := by
  rintro t u T M ⟨Λ, h⟩
  exact ⟨_, _, rfl, by show some (mI (sI M u 0 0) u 11, _) = _; rw [mI_n2 (by decide), ← h.2.2.2.2.2.2.1.2.1], Λ, h.u0 0⟩
theorem st_stopped : St_stopped Inv := by
  rintro t u T M ⟨Λ, h⟩
  exact ⟨_, _, rfl, by show some (mI (sI M u 0 0) u 64, _) = _; rw [mI_n2 (by decide), ← h.2.2.2.2.2.2.1.2.2.1], Λ, h.u0 0⟩
theorem st_fault : St_fault Inv := by
  rintro t u T M ⟨Λ, h⟩
  exact ⟨_, _, rfl, by show some (mI (sI M u 0 0) u 18, _) = _; rw [mI_n2 (by decide), ← h.2.2.2.2.2.2.1.2.2.2.1], Λ, h.u0 0⟩
theorem pl_nn {p : Int32} (h : p = 0 ∨ p = 1) : ∃ k, k < 2 ∧ p = Int32.ofNat k := by
  rcases h with rfl | rfl
  · exact ⟨0, by decide, rfl⟩
  · exact ⟨1, by decide, rfl⟩
theorem st_drawn : St_drawn Inv := by
  rintro t u T M p1 ⟨Λ, h⟩
  have hu := h.1
  have hD := h.2.2.2.2.2.2.1.2.2.2.2.2
  by_cases hp : p1 = 0 ∨ p1 = 1
  · obtain ⟨k, hk, rfl⟩ := pl_nn hp
    refine ⟨mI M (t + 276) k, sI M u 0 0, ?_, ?_, Λ, h.u0 0⟩
    · unfold FX11_drawn jn1
      rw [isPlayer_eq, if_pos hp]
      show (if (1 : Int32) = 0 then some (-1) else gd (inb (Int32.ofNat k) 2) (some (mI M (t + 276) (ix (Int32.ofNat k))))) = _
      rw [if_neg (by decide), nn_ix (by omega)]
      unfold gd; rw [if_pos (inb_nn hk (by decide))]
    · unfold FX12_drawn nm jn1 jn0
      simp only []
      rw [isPlayerM, if_pos hp, mI_n2 (by decide), mI_n1 (by omega)]
      rcases hD with ⟨d1, d2, d3⟩ | ⟨d1, d2, d3⟩
      · rw [d1, if_pos rfl]
        obtain rfl | rfl : k = 0 ∨ k = 1 := by omega
        · rw [d2]
        · rw [d3]
      · rw [d1, if_neg (by decide)]
        show (if ¬ (1 : Int32) = 0 then gd (inb (Int32.ofNat k) 2) (some (mI M (u + 41) (ix (Int32.ofNat k)), sI M u 0 0)) else some (-1, sI M u 0 0)) = _
        rw [if_pos (by decide), nn_ix (by omega)]
        unfold gd; rw [if_pos (inb_nn hk (by decide))]
        obtain rfl | rfl : k = 0 ∨ k = 1 := by omega
        · rw [d2]
        · rw [d3]
  · refine ⟨-1, sI M u 0 0, ?_, ?_, Λ, h.u0 0⟩
    · unfold FX11_drawn jn1
      rw [isPlayer_eq, if_neg hp]; rfl
    · unfold FX12_drawn nm jn1 jn0
      simp only []
      rw [isPlayerM, if_neg hp]
      show (if mI (sI M u 0 0) u 67 = 0 then _ else _) = _
      split <;> rfl
