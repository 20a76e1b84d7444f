/-! ===== an act on both sides: deal, lay, play, show ===== -/
def JT (Λ : Lam) (t u T : Nat) (A B : Mem) : Prop := u = t + 277 ∧ u + 42 ≤ T ∧ SR Λ A (u + 42) T (t + 1) (mI B (u + 2)) ∧ HR2 A B (t + 29) u ∧ WR Λ A (u + 42) T (t + 179) ∧ mI B u 20 = 0
def CAc (t q : Nat) : Prop := (t + 2 ≤ q ∧ q < t + 6) ∨ (t + 29 ≤ q ∧ q < t + 96) ∨ (t + 203 ≤ q ∧ q < t + 209)
def RAc (u q : Nat) : Prop := q = u ∨ q = u + 2 ∨ q = u + 5 ∨ q = u + 6 ∨ q = u + 18 ∨ (u + 20 ≤ q ∧ q < u + 32)
def AcE (t u : Nat) (A A' B B' : Mem) : Prop := Eo (CAc t) A A' ∧ Eo (RAc u) B B' ∧ (∀ k, k ≠ 8 → k ≠ 34 → k ≠ 38 → mI B' u k = mI B u k) ∧ (∀ k, k < 8 ∨ 130 ≤ k → mI B' (u + 2) k = mI B (u + 2) k) ∧ ∀ k, 1952 ≤ k → mI B' (u + 5) k = mI B (u + 5) k
theorem AcE.rf {t u : Nat} {A B : Mem} : AcE t u A A B B := ⟨Eo.rf, Eo.rf, fun _ _ _ _ => rfl, fun _ _ => rfl, fun _ _ => rfl⟩
theorem AcE.tr {t u : Nat} {A A' A2 B B' B2 : Mem} (h : AcE t u A A' B B') (h2 : AcE t u A' A2 B' B2) : AcE t u A A2 B B2 := ⟨h.1.tr h2.1, h.2.1.tr h2.2.1, fun k a b c => (h2.2.2.1 k a b c).trans (h.2.2.1 k a b c), fun k a => (h2.2.2.2.1 k a).trans (h.2.2.2.1 k a), fun k a => (h2.2.2.2.2 k a).trans (h.2.2.2.2 k a)⟩
theorem InvL.jt {Λ : Lam} {t u T : Nat} {M : Mem} (h : InvL Λ t u T M) : JT Λ t u T M M := ⟨h.1, h.2.1, h.2.2.1, h.2.2.2.2.1.two, h.2.2.2.2.2.2.2.1, h.2.2.2.2.2.2.2.2.2.2.2.2⟩
theorem JT.ref {Λ : Lam} {t u T : Nat} {A B B' : Mem} (h : JT Λ t u T A B) (e2 : mI B' (u + 2) = mI B (u + 2)) (e5 : mI B' (u + 5) = mI B (u + 5)) (e6 : mI B' (u + 6) = mI B (u + 6)) (e8 : mI B' u 8 = mI B u 8) (e20 : mI B' u 20 = mI B u 20) : JT Λ t u T A B' := by
  obtain ⟨h1, h2, h3, h4, h5, h6⟩ := h
  exact ⟨h1, h2, by rw [e2]; exact h3, h4.keep (fun q _ _ => Ea.rf _ _) e5 e6 e8, h5, by rw [e20]; exact h6⟩
/-- what both sides come to -/
def ActR (Λ : Lam) (t u T : Nat) (A B : Mem) (x y : Option (Int32 × Mem)) : Prop := ∃ v A' B', x = some (v, A') ∧ y = some (v, B') ∧ AcE t u A A' B B' ∧ JT Λ t u T A' B' ∧ (v = -1 ∨ v = -3 ∨ 0 ≤ v.toInt)
theorem jb1 {α τ : Type} {a : α → Option τ} {k : (α → Option τ) → Option τ} : jn1 a k = k a := rfl
theorem jb2 {α β τ : Type} {a : α → β → Option τ} {k : (α → β → Option τ) → Option τ} : jn2 a k = k a := rfl
theorem jx1 {α τ : Type} {a : α → Option τ} {k : (α → Option τ) → Option τ} (P : Option τ → Prop) (h : ∀ j : α → Option τ, (∀ x, j x = a x) → P (k j)) : P (jn1 a k) := h a (fun _ => rfl)
theorem tell_posC {t : Nat} {v : Int32} {M : Mem} (h : 0 ≤ v.toInt) : FX11_tell t v M = some (v, sI M t 16 0) := by
  unfold FX11_tell
  rw [jb2, if_pos (show (0 : Int32) ≤ v by rw [Int32.le_iff_toInt_le]; exact h), bo (grant_eq _ _ _)]
theorem tell_negC {t j : Nat} {v : Int32} {M : Mem} (hj : j < 5) (hv : rfC j = v) : FX11_tell t v M = some (v, sI (sI M t 16 v) (t + 275) j (mI M (t + 275) j + 1)) := by
  obtain ⟨_, _, k3⟩ := rfC_k j hj
  unfold FX11_tell
  rw [jb2, if_neg (show ¬ (0 : Int32) ≤ v by rw [Int32.le_iff_toInt_le, ← hv, show (0 : Int32).toInt = 0 from rfl]; omega), bo (refuse_eq hj hv)]
theorem act_st {Λ : Lam} {t u T : Nat} {M : Mem} {fc : Mem → Option (Int32 × Mem)} {fr : Mem → Option (Int32 × Mem)} (h : InvL Λ t u T M) (hact : ∀ B, JT Λ t u T M B → mI B (u + 2) = mI M (u + 2) → ActR Λ t u T M B (fc M) (fr B)) : ∃ v M1 M2, (bdM (fc M) fun r2 M1 => bdM (FX11_tell t r2 M1) fun r4 M3 => some (r4, M3)) = some (v, M1) ∧ (nm (sI M1 u 0 0) fun M1 => bdM (fr M1) fun r3 M2 => bdM (FX12_tell u r3 M2) fun r5 M4 => some (r5, M4)) = some (v, M2) ∧ Inv t u T M2 := by
  have hu := h.1
  have hT := h.2.1
  obtain ⟨v, A, _, x1, _, xE, _, _⟩ := hact M h.jt rfl
  -- what the class tells
  have fin : ∀ A'', (∀ q, q ≠ t → q ≠ t + 275 → Ea A A'' q) → (mI A'' t 17 = mI A t 17) → (mI A'' t 18 = mI A t 18) → ∃ B', fr (sI A'' u 0 0) = some (v, B') ∧ (v = -1 ∨ v = -3 ∨ 0 ≤ v.toInt) ∧ Eo (RAc u) (sI A'' u 0 0) B' ∧ (∀ k, k ≠ 0 → k ≠ 8 → k ≠ 34 → k ≠ 38 → mI B' u k = mI M u k) ∧ ∀ W, (∀ q, q ≠ u → q ≠ u + 1 → Ea B' W q) → mI W u 8 = mI B' u 8 → mI W t 16 = mI W u 1 → (∀ k, k ∈ ([11, 13, 18, 20, 64, 67] : List Nat) → mI W u k = mI M u k) → (∀ j, j < 5 → mI W (t + 275) j = mI W (u + 1) (rfJ j)) → InvL Λ t u T W := by
    intro A'' ha a17 a18
    have mE : ∀ q, q ≠ u → q ≠ t → q ≠ t + 275 → Ea A (sI A'' u 0 0) q := fun q a b c => (ha q b c).tr (Ea_sI a)
    have mM : ∀ q, q ≠ u → q ≠ t → q ≠ t + 275 → ¬ CAc t q → Ea M (sI A'' u 0 0) q := fun q a b c d => (xE.1 q d).tr (mE q a b c)
    have r2 : mI (sI A'' u 0 0) (u + 2) = mI M (u + 2) := (mM (u + 2) (by omega) (by omega) (by omega) (by unfold CAc; omega)).1
    have uu : ∀ k, k ≠ 0 → mI (sI A'' u 0 0) u k = mI M u k := fun k hk => by
      rw [mI_n2 hk, (ha u (by omega) (by omega)).1, (xE.1 u (by unfold CAc; omega)).1]
    obtain ⟨v2, A2, B', y1, y2, y3, y4, y5⟩ := hact (sI A'' u 0 0) (h.jt.ref r2 (mM _ (by omega) (by omega) (by omega) (by unfold CAc; omega)).1 (mM _ (by omega) (by omega) (by omega) (by unfold CAc; omega)).1 (uu 8 (by decide)) (uu 20 (by decide))) r2
    rw [x1] at y1
    obtain ⟨rfl, rfl⟩ := Prod.mk.inj (Option.some.inj y1)
    refine ⟨B', y2, y5, y3.2.1, fun k k0 k8 k34 k38 => by rw [y3.2.2.1 k k8 k34 k38, uu k k0], fun W w1 w8 w16 wu wc => ?_⟩
    have wA : ∀ q, q ≠ u → q ≠ u + 1 → q ≠ t → q ≠ t + 275 → ¬ RAc u q → Ea A W q := fun q a b c d e => ((mE q a c d).tr (y3.2.1 q e)).tr (w1 q a b)
    have wM : ∀ q, q ≠ u → q ≠ u + 1 → q ≠ t → q ≠ t + 275 → ¬ RAc u q → ¬ CAc t q → Ea M W q := fun q a b c d e f => (xE.1 q f).tr (wA q a b c d e)
    have rW : mI W (u + 2) = mI B' (u + 2) := (w1 (u + 2) (by omega) (by omega)).1
    have tW : ∀ k, k = 17 ∨ k = 18 → mI W t k = mI M t k := fun k hk => by
      rw [(w1 t (by omega) (by omega)).1, (y3.2.1 t (by unfold RAc; omega)).1, mI_n1 (by omega)]
      rcases hk with rfl | rfl
      · rw [a17, (xE.1 t (by unfold CAc; omega)).1]
      · rw [a18, (xE.1 t (by unfold CAc; omega)).1]
    have hS : SR Λ W (u + 42) T (t + 1) (mI W (u + 2)) := by
      rw [rW]
      exact y4.2.2.1.keep (fun q a b => wA q (by omega) (by omega) (by omega) (by omega) (by unfold RAc; omega)) (fun q a b => wA q (by omega) (by omega) (by omega) (by omega) (by unfold RAc; omega)) (Nat.le_refl _)
    have hH : HR W (t + 29) u := (y4.2.2.2.1.keep (fun q a b => wA q (by omega) (by omega) (by omega) (by omega) (by unfold RAc; omega)) (w1 _ (by omega) (by omega)).1 (w1 _ (by omega) (by omega)).1 w8).one
    refine h.upd hS hH (h.2.2.2.2.2.2.1.upd w16 (tW 17 (Or.inl rfl)) (tW 18 (Or.inr rfl)) (by rw [(wM (t + 171) (by omega) (by omega) (by omega) (by omega) (by unfold RAc; omega) (by unfold CAc; omega)).1]) (wu 11 (by decide)) (wu 64 (by decide)) (wu 18 (by decide)) (wu 67 (by decide)) wc (wM _ (by omega) (by omega) (by omega) (by omega) (by unfold RAc; omega) (by unfold CAc; omega)).1 (wM _ (by omega) (by omega) (by omega) (by omega) (by unfold RAc; omega) (by unfold CAc; omega)).1) (fun q hq => by unfold UsedC at hq; exact wM q (by omega) (by omega) (by omega) (by omega) (by unfold RAc; omega) (by unfold CAc; omega)) (by rw [(wM (t + 171) (by omega) (by omega) (by omega) (by omega) (by unfold RAc; omega) (by unfold CAc; omega)).1]) (wu 13 (by decide)) (wu 20 (by decide))
  have neg : ∀ j, j < 5 → rfC j = v → ∃ v M1 M2, (bdM (fc M) fun r2 M1 => bdM (FX11_tell t r2 M1) fun r4 M3 => some (r4, M3)) = some (v, M1) ∧ (nm (sI M1 u 0 0) fun M1 => bdM (fr M1) fun r3 M2 => bdM (FX12_tell u r3 M2) fun r5 M4 => some (r5, M4)) = some (v, M2) ∧ Inv t u T M2 := by
    intro j hj hv
    obtain ⟨k1, k2, k3⟩ := rfC_k j hj
    obtain ⟨B', b1, _, b2, b3, b4⟩ := fin (sI (sI A t 16 v) (t + 275) j (mI A (t + 275) j + 1)) (fun q a b => by (repeat (first | exact Ea.rf _ _ | refine Ea.tr ?_ (Ea_sI (by omega)) | refine Ea.tr ?_ (Ea_sJ (by omega))))) (by simp (disch := omega) only [mI_n1, mI_n2, mI_e, mJ_n1, mJ_n2, mJ_e, mI_sJ, mI_sR, mJ_sI, mJ_sR, mR_sI, mR_sJ]) (by simp (disch := omega) only [mI_n1, mI_n2, mI_e, mJ_n1, mJ_n2, mJ_e, mI_sJ, mI_sR, mJ_sI, mJ_sR, mR_sI, mR_sJ])
    have t275 : mI A (t + 275) = mI M (t + 275) := (xE.1 (t + 275) (by unfold CAc; omega)).1
    have c275 : ∀ k, mI B' (t + 275) k = if k = j then mI M (t + 275) j + 1 else mI M (t + 275) k := fun k => by
      rw [(b2 (t + 275) (by unfold RAc; omega)).1, mI_n1 (by omega)]
      by_cases z : k = j
      · rw [if_pos z, z, mI_e, t275]
      · rw [if_neg z, mI_n2 z, mI_n1 (by omega), t275]
    have u1 : ∀ k, mI B' (u + 1) k = mI M (u + 1) k := fun k => by
      rw [(b2 (u + 1) (by unfold RAc; omega)).1]
      simp (disch := omega) only [mI_n1, mI_n2, mI_e, mJ_n1, mJ_n2, mJ_e, mI_sJ, mI_sR, mJ_sI, mJ_sR, mR_sI, mR_sJ]
      rw [(xE.1 (u + 1) (by unfold CAc; omega)).1]
    have t16 : mI B' t 16 = v := by
      rw [(b2 t (by unfold RAc; omega)).1]; simp (disch := omega) only [mI_n1, mI_n2, mI_e, mJ_n1, mJ_n2, mJ_e, mI_sJ, mI_sR, mJ_sI, mJ_sR, mR_sI, mR_sJ]
    refine ⟨v, sI (sI A t 16 v) (t + 275) j (mI A (t + 275) j + 1), sI (sI B' u 1 v) (u + 1) (rfJ j) (mI B' (u + 1) (rfJ j) + 1), ?_, ?_, Λ, b4 _ ?_ ?_ ?_ ?_ ?_⟩
    · rw [bo x1, bo (tell_negC hj hv)]
    · rw [nmb, bo b1, bo (tell_neg k1 (by rw [← hv]; exact k2) (by rw [← hv]; exact k3))]
    · intro q a b; (repeat (first | exact Ea.rf _ _ | refine Ea.tr ?_ (Ea_sI (by omega)) | refine Ea.tr ?_ (Ea_sJ (by omega))))
    · simp (disch := omega) only [mI_n1, mI_n2, mI_e, mJ_n1, mJ_n2, mJ_e, mI_sJ, mI_sR, mJ_sI, mJ_sR, mR_sI, mR_sJ]
    · simp (disch := omega) only [mI_n1, mI_n2, mI_e, mJ_n1, mJ_n2, mJ_e, mI_sJ, mI_sR, mJ_sI, mJ_sR, mR_sI, mR_sJ]; exact t16
    · intro k hk
      have k0 : k ≠ 0 := fun z => by rw [z] at hk; exact absurd hk (by decide)
      have k1 : k ≠ 1 := fun z => by rw [z] at hk; exact absurd hk (by decide)
      have k8 : k ≠ 8 := fun z => by rw [z] at hk; exact absurd hk (by decide)
      have k34 : k ≠ 34 := fun z => by rw [z] at hk; exact absurd hk (by decide)
      have k38 : k ≠ 38 := fun z => by rw [z] at hk; exact absurd hk (by decide)
      simp (disch := omega) only [mI_n1, mI_n2, mI_e, mJ_n1, mJ_n2, mJ_e, mI_sJ, mI_sR, mJ_sI, mJ_sR, mR_sI, mR_sJ]
      exact b3 k k0 k8 k34 k38
    · intro i hi
      have vv := h.2.2.2.2.2.2.1.2.2.2.2.1 i hi
      rw [mI_n1 (by omega), mI_n1 (by omega), c275]
      by_cases z : i = j
      · subst z
        rw [if_pos rfl, mI_e, u1, vv]
      · rw [if_neg z, mI_n2 (fun y => z ((rfJ_inj i hi j hj).mp y)), mI_n1 (by omega), u1, vv]
  by_cases hv : 0 ≤ v.toInt
  · obtain ⟨B', b1, _, b2, b3, b4⟩ := fin (sI A t 16 0) (fun q a b => by (repeat (first | exact Ea.rf _ _ | refine Ea.tr ?_ (Ea_sI (by omega)) | refine Ea.tr ?_ (Ea_sJ (by omega))))) (by simp (disch := omega) only [mI_n1, mI_n2, mI_e, mJ_n1, mJ_n2, mJ_e, mI_sJ, mI_sR, mJ_sI, mJ_sR, mR_sI, mR_sJ]) (by simp (disch := omega) only [mI_n1, mI_n2, mI_e, mJ_n1, mJ_n2, mJ_e, mI_sJ, mI_sR, mJ_sI, mJ_sR, mR_sI, mR_sJ])
    refine ⟨v, sI A t 16 0, sI B' u 1 0, ?_, ?_, Λ, b4 _ ?_ ?_ ?_ ?_ ?_⟩
    · rw [bo x1, bo (tell_posC hv)]
    · rw [nmb, bo b1, bo (tell_pos hv)]
    · intro q a b; (repeat (first | exact Ea.rf _ _ | refine Ea.tr ?_ (Ea_sI (by omega)) | refine Ea.tr ?_ (Ea_sJ (by omega))))
    · simp (disch := omega) only [mI_n1, mI_n2, mI_e, mJ_n1, mJ_n2, mJ_e, mI_sJ, mI_sR, mJ_sI, mJ_sR, mR_sI, mR_sJ]
    · simp (disch := omega) only [mI_n1, mI_n2, mI_e, mJ_n1, mJ_n2, mJ_e, mI_sJ, mI_sR, mJ_sI, mJ_sR, mR_sI, mR_sJ]
      rw [(b2 t (by unfold RAc; omega)).1]; simp (disch := omega) only [mI_n1, mI_n2, mI_e, mJ_n1, mJ_n2, mJ_e, mI_sJ, mI_sR, mJ_sI, mJ_sR, mR_sI, mR_sJ]
    · intro k hk
      have k0 : k ≠ 0 := fun z => by rw [z] at hk; exact absurd hk (by decide)
      have k1 : k ≠ 1 := fun z => by rw [z] at hk; exact absurd hk (by decide)
      have k8 : k ≠ 8 := fun z => by rw [z] at hk; exact absurd hk (by decide)
      have k34 : k ≠ 34 := fun z => by rw [z] at hk; exact absurd hk (by decide)
      have k38 : k ≠ 38 := fun z => by rw [z] at hk; exact absurd hk (by decide)
      simp (disch := omega) only [mI_n1, mI_n2, mI_e, mJ_n1, mJ_n2, mJ_e, mI_sJ, mI_sR, mJ_sI, mJ_sR, mR_sI, mR_sJ]
      exact b3 k k0 k8 k34 k38
    · intro i hi
      simp (disch := omega) only [mI_n1, mI_n2, mI_e, mJ_n1, mJ_n2, mJ_e, mI_sJ, mI_sR, mJ_sI, mJ_sR, mR_sI, mR_sJ]
      rw [(b2 (t + 275) (by unfold RAc; omega)).1, (b2 (u + 1) (by unfold RAc; omega)).1]
      simp (disch := omega) only [mI_n1, mI_n2, mI_e, mJ_n1, mJ_n2, mJ_e, mI_sJ, mI_sR, mJ_sI, mJ_sR, mR_sI, mR_sJ]
      rw [(xE.1 (t + 275) (by unfold CAc; omega)).1, (xE.1 (u + 1) (by unfold CAc; omega)).1]
      exact h.2.2.2.2.2.2.1.2.2.2.2.1 i hi
  · obtain ⟨_, _, h5, _⟩ := fin (sI A t 16 0) (fun q a b => by (repeat (first | exact Ea.rf _ _ | refine Ea.tr ?_ (Ea_sI (by omega)) | refine Ea.tr ?_ (Ea_sJ (by omega))))) (by simp (disch := omega) only [mI_n1, mI_n2, mI_e, mJ_n1, mJ_n2, mJ_e, mI_sJ, mI_sR, mJ_sI, mJ_sR, mR_sI, mR_sJ]) (by simp (disch := omega) only [mI_n1, mI_n2, mI_e, mJ_n1, mJ_n2, mJ_e, mI_sJ, mI_sR, mJ_sI, mJ_sR, mR_sI, mR_sJ])
    rcases h5 with h5 | h5 | h5
    · exact neg 0 (by decide) (by rw [h5]; rfl)
    · exact neg 2 (by decide) (by rw [h5]; rfl)
    · exact absurd h5 hv
/-! ===== deal ===== -/
theorem JT.tab {Λ : Lam} {t u T : Nat} {A A' B B' : Mem} (h : JT Λ t u T A B) (hE : AcE t u A A' B B') (hT : TR A' (t + 2) (mI B' (u + 2))) (hV : TV (mI B' (u + 2))) (hH : HR2 A' B' (t + 29) u) : JT Λ t u T A' B' := by
  obtain ⟨h1, h2, h3, h4, h5, h6⟩ := h
  refine ⟨h1, h2, h3.tab (fun q hq => hE.1 q (by unfold CAc; omega)) (fun q a b => hE.1 q (by unfold CAc; omega)) hE.2.2.2.1 hT hV, hH, h5.keep (fun q a b => hE.1 q (by unfold CAc; omega)) (fun q a b => hE.1 q (by unfold CAc; omega)) (Nat.le_refl _), ?_⟩
  rw [hE.2.2.1 20 (by decide) (by decide) (by decide)]; exact h6
theorem i64_nn {n : Nat} (h : n < 2147483648) : (Int32.ofNat n).toInt64 = Int64.ofNat n := by
  apply Int64.toInt_inj.mp
  rw [j_int, nn_int h, Int64.toInt_ofNat_of_lt (by omega)]
theorem deal_act {Λ : Lam} {t u T : Nat} {A B : Mem} (h : JT Λ t u T A B) (p : Int32) : ActR Λ t u T A B (FX11_makeDeal t p A) (FX12_dealNow u p B) := by
  have hu := h.1
  obtain ⟨hTR, hTV, _⟩ := h.2.2.1
  have e5 : mI A (t + 1 + 1) 5 = mI B (u + 2) 9 := hTR.2.2.2.2.1
  have e6 : mI A (t + 1 + 1) 6 = mI B (u + 2) 10 := hTR.2.2.2.2.2.1
  have e12 : mI A (t + 1 + 1) 12 = mI B (u + 2) 8 := hTR.2.2.2.2.2.2.2.2.2.2.2.1
  unfold FX11_makeDeal FX12_dealNow
  have hin : FX12_in p.toInt64 0 1000000 = some (if 0 ≤ p.toInt ∧ p.toInt ≤ 1000000 then 1 else 0) := in_i p 0 1000000
  by_cases c1 : 0 ≤ p.toInt ∧ p.toInt ≤ 1000000
  rotate_left
  · refine ⟨-1, A, B, ?_, ?_, AcE.rf, h, Or.inl rfl⟩
    · rw [jb]
      by_cases z : p.toInt < 0
      · rw [if_pos (i_lt0.mpr z)]
      · rw [if_neg (fun y => z (i_lt0.mp y)), if_neg (fun y => ?_)]
        rw [Int32.le_iff_toInt_le, show (1000000 : Int32).toInt = 1000000 from rfl] at y
        omega
    · rw [hin, if_neg c1, ob rfl, if_neg (by decide)]
  rw [jb, if_neg (fun y => by have := i_lt0.mp y; omega), if_pos (show p ≤ 1000000 by rw [Int32.le_iff_toInt_le, show (1000000 : Int32).toInt = 1000000 from rfl]; omega), hin, if_pos c1, ob rfl, if_pos (by decide), jb, e5, e12]
  refine jx1 (fun x => ActR Λ t u T A B x _) (fun j6 hj6 => ?_)
  rw [jb, hj6, hj6, jb, jb]
  have ref : ∀ x : Option (Int32 × Mem), x = some (-3, A) → ActR Λ t u T A B x (some (-3, B)) := fun x hx => ⟨-3, A, B, hx, rfl, AcE.rf, h, Or.inr (Or.inl rfl)⟩
  obtain ⟨v1, v2, v3, _⟩ := id hTV
  have go : (mI B (u + 2) 9 = 0 ∨ mI B (u + 2) 9 = 3) → (mI B (u + 2) 8).toInt < 999 → ActR Λ t u T A B ((FX4_push (t + 29) (t + 1 + 1) 0 A).bind fun M11 => bdM (FX8_dealOut (t + 1 + 1) p M11) fun r13 M12 => some (mI M12 (t + 1 + 1) 7, M12)) ((FX12_remember u 0 B).bind fun M7 => nm (sJ M7 u 50 p.toInt64) fun M8 => (FX12_dealIt u M8).bind fun M9 => some (mI M9 (u + 2) 11, M9)) := by
    intro _ h8
    obtain ⟨⟨A1, a1⟩, ⟨B1, b1⟩⟩ := push_some (kd := 0) h.2.2.2.1 (p := t + 1 + 1) (by omega) hTR
    obtain ⟨hH, ea, eb, eu, ej, el⟩ := h.2.2.2.1.push (kd := 0) (p := t + 1 + 1) (by omega) hTR hTV (by decide) a1 b1
    obtain ⟨s, hs, rfl⟩ := nn_exi c1.1
    rw [nn_int hs] at c1
    obtain ⟨d0, hd0, hd⟩ := pl_nn (p := mI B (u + 2) 10) v3
    have hTR1 : TR A1 (t + 1 + 1) (mI B (u + 2)) := hTR.keep (ea _ (by omega)) (ea _ (by omega)) (ea _ (by omega)) (ea _ (by omega))
    have q6 : mI A1 (t + 1 + 1) 6 = Int32.ofNat d0 := by rw [(ea (t + 1 + 1) (by omega)).1, e6, hd]
    obtain ⟨⟨s', A2⟩, a2, _, a3⟩ := dealOut_c (b := t + 1 + 1) (s := s) (M := A1) (by omega) hd0 rfl q6
    have a3 : DoE (t + 1 + 1) s (1 - d0) A1 A2 := a3
    have rB : mI (sJ B1 u 50 (Int32.ofNat s).toInt64) (u + 2) = mI B (u + 2) := by
      show mI B1 (u + 2) = _
      rw [(eb (u + 2) (by omega)).1]
    obtain ⟨B2, b2, b3, _⟩ := dealIt_r (u := u) (s := s) (d0 := d0) (M := sJ B1 u 50 (Int32.ofNat s).toInt64) (by omega) hd0 rfl (by rw [rB, hd]) (by rw [mJ_e, i64_nn hs])
    have hTR2 : TR A2 (t + 1 + 1) (mI B2 (u + 2)) := deal_TR (by omega) a3 b3 (by rw [rB]; exact hTR1)
    have hTV2 : TV (mI B2 (u + 2)) := deal_TV (by omega) b3 (by rw [rB]; exact hTV) (by rw [rB]; exact h8)
    have EB : ∀ q, ¬ RAc u q → Ea B B2 q := fun q hq => ((eb q (by unfold RAc at hq; omega)).tr (Ea_sJ (by unfold RAc at hq; omega))).tr (b3.1 q (by unfold RAc at hq; omega))
    have E15 : ∀ q, q = u + 5 ∨ q = u + 6 → Ea B1 B2 q := fun q hq => (Ea_sJ (by omega)).tr (b3.1 q (by omega))
    have hE : AcE t u A A2 B B2 := ⟨(ea.up (fun q hq => by unfold CAc; omega)).tr (a3.1.up (fun q hq => by unfold CAc; omega)), EB, fun k k8 _ _ => by rw [b3.2.1]; exact eu k k8, fun k hk => by rw [b3.2.2.2.2.2.2.2.2.2.2.2 k (by omega), rB], fun k hk => by rw [(E15 (u + 5) (Or.inl rfl)).1]; exact el k hk⟩
    have hc7 : mI A2 (t + 1 + 1) 7 = mI B2 (u + 2) 11 := hTR2.2.2.2.2.2.2.1
    have u28 : mI B2 u 8 = mI B1 u 8 := by rw [b3.2.1]; rfl
    have hg := (dlC_in (s0 := s) (i := 12) (by omega)).1
    refine ⟨mI B2 (u + 2) 11, A2, B2, ?_, ?_, hE, h.tab hE hTR2 hTV2 (hH.keep (fun q a b => a3.1 q (by omega)) (E15 _ (Or.inl rfl)).1 (E15 _ (Or.inr rfl)).1 u28), Or.inr (Or.inr ?_)⟩
    · rw [ob a1, bo a2, hc7]
    · rw [ob b1, nmb, ob b2]
    · rw [b3.2.2.2.2.2.2.1, nn_int (by omega)]; omega
  have e999 : (mI B (u + 2) 8 = 999) ↔ ¬ (mI B (u + 2) 8 < 999) := by
    rw [← Int32.toInt_inj, Int32.lt_iff_toInt_lt, show (999 : Int32).toInt = 999 from rfl]; omega
  have l999 : (mI B (u + 2) 8 < 999) → (mI B (u + 2) 8).toInt < 999 := fun z => by
    rw [Int32.lt_iff_toInt_lt, show (999 : Int32).toInt = 999 from rfl] at z; exact z
  rcases v2 with z | z | z | z
  · rw [z, if_pos rfl, if_neg (show ¬ (1 : Int32) = 0 by decide), if_neg (show ¬ (0 : Int32) = 1 by decide), if_neg (show ¬ (0 : Int32) = 2 by decide)]
    by_cases y : mI B (u + 2) 8 < 999
    · rw [if_pos y, if_pos (fun w => e999.mp w y)]; exact go (Or.inl z) (l999 y)
    · rw [if_neg y, if_neg (fun w => w (e999.mpr y))]; exact ref _ rfl
  · rw [z, if_neg (show ¬ (1 : Int32) = 0 by decide), if_pos (show ¬ (1 : Int32) = 3 by decide), if_pos rfl, if_pos rfl]; exact ref _ rfl
  · rw [z, if_neg (show ¬ (2 : Int32) = 0 by decide), if_pos (show ¬ (2 : Int32) = 3 by decide), if_neg (show ¬ (2 : Int32) = 1 by decide), if_pos rfl, if_pos rfl]; exact ref _ rfl
  · rw [z, if_neg (show ¬ (3 : Int32) = 0 by decide), if_neg (show ¬ ¬ (3 : Int32) = 3 by decide), if_neg (show ¬ (1 : Int32) = 0 by decide), if_neg (show ¬ (3 : Int32) = 1 by decide), if_neg (show ¬ (3 : Int32) = 2 by decide)]
    by_cases y : mI B (u + 2) 8 < 999
    · rw [if_pos y, if_pos (fun w => e999.mp w y)]; exact go (Or.inr z) (l999 y)
    · rw [if_neg y, if_neg (fun w => w (e999.mpr y))]; exact ref _ rfl
theorem st_deal : St_deal Inv := by
  rintro t u T M p1 ⟨Λ, h⟩
  exact act_st (fc := FX11_makeDeal t p1) (fr := FX12_dealNow u p1) h (fun B hB _ => deal_act hB p1)
