/-! ===== one more law; what holds after a text was read ===== -/
theorem TxV.lam {Λ Λ' : Lam} {M : Mem} {a : Nat} (h : TxV Λ M a) (e : Λ' a = Λ a) : TxV Λ' M a := by
  unfold TxV; rw [e]; exact h
theorem LV.lam {Λ Λ' : Lam} {M : Mem} {lo T : Nat} {x : Option Nat} (h : LV Λ M lo T x) (e : ∀ a, a + 3 ≤ T → Λ' a = Λ a) : LV Λ' M lo T x := fun a ha => by
  obtain ⟨h1, h2, h3⟩ := h a ha
  exact ⟨h1, h2, h3.lam (e a h2)⟩
theorem SRl.lam {Λ Λ' : Lam} {M : Mem} {lo T b : Nat} {r : Nat → Int32} (h : SRl Λ M lo T b r) (e : ∀ a, a + 3 ≤ T → Λ' a = Λ a) : SRl Λ' M lo T b r := by
  obtain ⟨n, h1, h2, h3, h4, h5, h6⟩ := h
  refine ⟨n, h1, h2, h3, h4, h5, fun i hi => ?_⟩
  obtain ⟨a, a1, a2, a3, a4, a5⟩ := h6 i hi
  exact ⟨a, a1, a2, a3, a4.lam (e a a3), by rw [e a a3]; exact a5⟩
theorem WR.lam {Λ Λ' : Lam} {M : Mem} {lo T w : Nat} (h : WR Λ M lo T w) (e : ∀ a, a + 3 ≤ T → Λ' a = Λ a) : WR Λ' M lo T w := by
  obtain ⟨h1, h2, h3⟩ := h
  refine ⟨h1, h2, fun z => ?_⟩
  obtain ⟨a1, a2⟩ := h3 z
  refine ⟨a1.lam e, ?_⟩
  have : LOf Λ' (mR M w 6) = LOf Λ (mR M w 6) := by
    cases q : mR M w 6 with
    | none => rfl
    | some a => exact e a (a1 a q).2.1
  rw [this]; exact a2
theorem InvL.lam {Λ Λ' : Lam} {t u T : Nat} {M : Mem} (h : InvL Λ t u T M) (e : ∀ a, a + 3 ≤ T → Λ' a = Λ a) : InvL Λ' t u T M := by
  obtain ⟨h1, h2, ⟨a1, a2, a3, a4, a5, a6⟩, h4, h5, h6, h7, h8, h9, h10⟩ := h
  refine ⟨h1, h2, ⟨a1, a2, a3, a4, a5.lam e, a6⟩, fun k hk => ?_, h5, h6, h7, h8.lam e, h9.lam e, h10⟩
  obtain ⟨b1, b2, b3⟩ := h4 k hk
  refine ⟨b1, b2, fun z => ?_⟩
  obtain ⟨c1, c2, c3, c4, c5, c6⟩ := b3 z
  exact ⟨c1, c2, c3, c4, c5.lam e, c6⟩
def UsedN (t u T q : Nat) : Prop := (t + 10 ≤ q ∧ q < t + 96) ∨ (t + 179 ≤ q ∧ q < t + 203) ∨ q = t + 276 ∨ (u + 3 ≤ q ∧ q < u + 7) ∨ (u + 15 ≤ q ∧ q < u + 18) ∨ q = u + 39 ∨ q = u + 41 ∨ (u + 42 ≤ q ∧ q < T)
theorem InvL.txt {Λ : Lam} {t u T T' : Nat} {M W : Mem} (h : InvL Λ t u T M) (hT : T ≤ T') (hS : SR Λ W (u + 42) T' (t + 1) (mI W (u + 2))) (e : ∀ q, UsedN t u T q → Ea M W q) (n4 : mN W (t + 174) = mN M (t + 174)) (n5 : mN W (t + 175) = mN M (t + 175)) (hP : TP t u W) (t16 : mI W t 16 = mI W u 1) (et : ∀ k, k = 17 ∨ k = 18 → mI W t k = mI M t k) (f18 : mI W (t + 171) 3 = mI W u 18) (eu : ∀ k, k ∈ ([8, 11, 20, 64, 67] : List Nat) → mI W u k = mI M u k) (h275 : ∀ i, i < 5 → mI W (t + 275) i = mI W (u + 1) (rfJ i)) : InvL Λ t u T' W := by
  obtain ⟨h1, h2, h3, h4, h5, h6, h7, h8, h9, h10⟩ := h
  have eT : ∀ q, u + 42 ≤ q → q < T → Ea M W q := fun q a b => e q (by unfold UsedN; omega)
  refine ⟨h1, by omega, hS, ?_, ?_, hP, ?_, ?_, ?_, ?_⟩
  · exact h4.keep (fun q a b => e q (by unfold UsedN; omega)) (e _ (by unfold UsedN; omega)).1 (e _ (by unfold UsedN; omega)).1 eT hT
  · exact h5.keep (fun q a b => e q (by unfold UsedN; omega)) (e _ (by unfold UsedN; omega)).1 (e _ (by unfold UsedN; omega)).1 (eu 8 (by decide))
  · obtain ⟨m1, m2, m3, m4, m5, m6⟩ := h7
    refine ⟨t16, by rw [et 17 (by omega), eu 11 (by decide)]; exact m2, by rw [et 18 (by omega), eu 64 (by decide)]; exact m3, f18, h275, ?_⟩
    unfold DrR
    rw [eu 67 (by decide), (e (t + 276) (by unfold UsedN; omega)).1, (e (u + 41) (by unfold UsedN; omega)).1]; exact m6
  · exact h8.keep (fun q a b => e q (by unfold UsedN; omega)) eT hT
  · exact h9.keep (fun q a b => e q (by unfold UsedN; omega)) eT hT
  · obtain ⟨k1, k2, k3, k4⟩ := h10
    exact ⟨k1.keepE (e _ (by unfold UsedN; omega)).2.1 (e _ (by unfold UsedN; omega)).2.1 (e _ (by unfold UsedN; omega)).2.1 (e _ (by unfold UsedN; omega)).2.1, by rw [n4]; exact k2, by rw [n5]; exact k3, by rw [eu 20 (by decide)]; exact k4⟩
/-- a refusal that has cleared the tape: C is the class's memory before it, R the reference's -/
theorem InvL.refX {Λ : Lam} {t u T j : Nat} {M C R : Mem} (h : InvL Λ t u T M) (hj : j < 5) (ec : ∀ q, UsedN t u T q ∨ q = t ∨ (t + 1 ≤ q ∧ q < t + 10) ∨ q = t + 275 ∨ (u ≤ q ∧ q < u + 42) → Ea M C q) (n4 : mN C (t + 174) = mN M (t + 174)) (n5 : mN C (t + 175) = mN M (t + 175)) (c2 : mI C (t + 171) 2 = 0) (er : ∀ q, q ≠ u → (q < u + 10 ∨ u + 15 ≤ q) → q ≠ u + 40 → Ea (RfM t j C) R q) (r13 : mI R u 13 = 0) (f18 : mI C (t + 171) 3 = mI R u 18) (eu : ∀ k, k ∈ ([8, 11, 20, 64, 67] : List Nat) → mI R u k = mI M u k) : ∃ W, bdM (FX12_tell u (rfC j) R) (fun r N => some (r, N)) = some (rfC j, W) ∧ InvL Λ t u T W := by
  have hu := h.1
  have hT := h.2.1
  obtain ⟨k1, k2, k3⟩ := rfC_k j hj
  refine ⟨_, by rw [bo (tell_neg k1 k2 k3)], ?_⟩
  generalize hW : sI (sI R u 1 (rfC j)) (u + 1) (rfJ j) (mI R (u + 1) (rfJ j) + 1) = W
  have eW : ∀ q, q ≠ u → q ≠ u + 1 → Ea R W q := fun q a b => by rw [← hW]; (repeat (first | exact Ea.rf _ _ | refine Ea.tr ?_ (Ea_sI (by omega)) | refine Ea.tr ?_ (Ea_sJ (by omega))))
  have eR : ∀ q, q ≠ t → q ≠ t + 275 → Ea C (RfM t j C) q := fun q a b => by unfold RfM; (repeat (first | exact Ea.rf _ _ | refine Ea.tr ?_ (Ea_sI (by omega)) | refine Ea.tr ?_ (Ea_sJ (by omega))))
  have eCW : ∀ q, q ≠ t → q ≠ t + 275 → q ≠ u → q ≠ u + 1 → (q < u + 10 ∨ u + 15 ≤ q) → q ≠ u + 40 → Ea C W q := fun q a b c d e f => ((eR q a b).tr (er q c e f)).tr (eW q c d)
  have v275 : mI M (t + 275) j = mI M (u + 1) (rfJ j) := h.2.2.2.2.2.2.1.2.2.2.2.1 j hj
  have eMW : ∀ q, UsedN t u T q ∨ (t + 1 ≤ q ∧ q < t + 10) ∨ q = u + 2 → Ea M W q := fun q hq => by
    unfold UsedN at hq
    exact (ec q (by unfold UsedN; omega)).tr (eCW q (by omega) (by omega) (by omega) (by omega) (by omega) (by omega))
  have a1 : mI R (u + 1) = mI M (u + 1) := by rw [(er (u + 1) (by omega) (by omega) (by omega)).1, (eR (u + 1) (by omega) (by omega)).1, (ec (u + 1) (by omega)).1]
  have a2 : ∀ i, mI W (t + 275) i = if i = j then mI M (t + 275) j + 1 else mI M (t + 275) i := fun i => by
    rw [(eW (t + 275) (by omega) (by omega)).1, (er (t + 275) (by omega) (by omega) (by omega)).1]
    unfold RfM
    by_cases z : i = j
    · rw [if_pos z, z, mI_e, (ec (t + 275) (by omega)).1]
    · rw [if_neg z, mI_n2 z, mI_n1 (by omega), (ec (t + 275) (by omega)).1]
  have a3 : ∀ k, k ≠ 1 → mI W u k = mI R u k := fun k hk => by rw [← hW]; simp (disch := omega) only [mI_n1, mI_n2, mI_e, mJ_n1, mJ_n2, mJ_e, mI_sJ, mI_sR, mJ_sI, mJ_sR, mR_sI, mR_sJ]
  have a4 : ∀ k, mI W t k = if k = 16 then rfC j else mI M t k := fun k => by
    rw [(eW t (by omega) (by omega)).1, (er t (by omega) (by omega) (by omega)).1]
    unfold RfM
    rw [mI_n1 (by omega)]
    by_cases z : k = 16
    · rw [if_pos z, z, mI_e]
    · rw [if_neg z, mI_n2 z, (ec t (by omega)).1]
  have nn : ∀ q, q = t + 174 ∨ q = t + 175 ∨ q = t + 171 → Ea C W q := fun q hq => eCW q (by omega) (by omega) (by omega) (by omega) (by omega) (by omega)
  refine h.txt (Nat.le_refl _) ?_ (fun q hq => eMW q (Or.inl hq)) (by rw [(nn (t + 174) (by omega)).2.2.2]; exact n4) (by rw [(nn (t + 175) (by omega)).2.2.2]; exact n5) ⟨0, by omega, by rw [(nn (t + 171) (by omega)).1]; exact c2, by rw [a3 13 (by decide)]; exact r13, fun k hk => absurd hk (by omega)⟩ (by rw [a4, if_pos rfl, ← hW]; simp (disch := omega) only [mI_n1, mI_n2, mI_e, mJ_n1, mJ_n2, mJ_e, mI_sJ, mI_sR, mJ_sI, mJ_sR, mR_sI, mR_sJ]) (fun k hk => by rw [a4, if_neg (by omega)]) (by rw [(nn (t + 171) (by omega)).1, a3 18 (by decide)]; exact f18) (fun k hk => by rw [a3 k (fun z => by rw [z] at hk; exact absurd hk (by decide))]; exact eu k hk) (fun i hi => ?_)
  · rw [(eMW (u + 2) (by omega)).1]
    exact h.2.2.1.keep (fun q a b => eMW q (by omega)) (fun q a b => eMW q (by unfold UsedN; omega)) (Nat.le_refl _)
  · have v := h.2.2.2.2.2.2.1.2.2.2.2.1 i hi
    rw [a2]
    by_cases z : i = j
    · subst z
      rw [if_pos rfl, ← hW, mI_e, a1, v]
    · have z2 : rfJ i ≠ rfJ j := fun y => z ((rfJ_inj i hi j hj).mp y)
      rw [if_neg z, ← hW, mI_n2 z2, mI_n1 (by omega), a1]; exact v
