/-! ===== back, terms ===== -/
theorem HR.none {M : Mem} {h u f : Nat} (hf : f < 16) (a : mI M h 2 = Int32.ofNat f) (b : mI M h 3 = 0) (c : mI M u 8 = 0) : HR M h u := ⟨f, 0, hf, by omega, a, b, c, fun i hi => absurd hi (by omega)⟩
theorem st_back : St_back Inv := by
  rintro t u T M p1 ⟨Λ, h⟩
  have hu := h.1
  have hT' := h.2.1
  rcases two_cases p1 with ⟨k, hk, rfl, z1, z2, i1⟩ | ⟨z, i1⟩
  rotate_left
  · refine st_ref (j := 0) h (by decide) ?_ ?_
    · unfold FX11_back
      rw [jb]
      by_cases y : p1 < 0
      · rw [if_pos y]; rfl
      · rw [if_neg y, if_neg (z.resolve_left y)]; rfl
    · unfold FX12_back
      rw [nmb, ob i1, if_neg (by decide)]; rfl
  obtain ⟨y1, y2, y3⟩ := h.2.2.2.1 k hk
  have y2 : mI M (t + 10 + 1 + 9 * k) 9 = mI M (u + 4) k := by rw [← y2]
  rcases y1 with y1 | y1
  · refine st_ref (j := 1) h (by decide) ?_ ?_
    · unfold FX11_back
      rw [jb, if_neg z1, if_pos z2, gp (inb_nn hk (by decide)), nn_ix (by omega), y2, y1, if_neg (by decide)]; rfl
    · unfold FX12_back
      have x1 : mI (sI (RfM t 1 M) u 0 0) (u + 4) k = 0 := by unfold RfM; simp (disch := omega) only [mI_n1, mI_n2, mI_e, mJ_n1, mJ_n2, mJ_e, mI_sJ, mI_sR, mJ_sI, mJ_sR, mR_sI, mR_sJ]; exact y1
      rw [nmb, ob i1, if_pos (by decide), gp (inb_nn hk (by decide)), nn_ix (by omega), x1, if_neg (by decide)]; rfl
  have hI : SR Λ M (u + 42) T (t + 10 + 1 + 9 * k) (fun j => mI M (u + 3) (5594 * k + j)) := y3 y1
  obtain ⟨f, n, hf, -, hf2, -⟩ := h.2.2.2.2.1
  obtain ⟨C, e1, e2, e3, e4, e5, e6, e7, e8, e9, e10⟩ := copyS (b := t + 1) (p := t + 10 + 1 + 9 * k) (M := M) (by omega) hI.1
  generalize hM1 : sI (sI C (t + 29) 3 0) t 16 0 = M1
  have A1 : ∀ q, q ≠ t → q ≠ t + 29 → (q < t + 1 ∨ t + 10 ≤ q) → Ea M M1 q := fun q a b c => by
    rw [← hM1]
    exact ((e2 q (by omega)).tr (Ea_sI b)).tr (Ea_sI a)
  have run : So (FX12_back u (Int32.ofNat k) M1) (fun r => r.1 = 0 ∧ ∃ N, Eo (fun q => q = u + 2) (sI M1 u 0 0) N ∧ (∀ j, j < 5594 → mI N (u + 2) j = mI (sI M1 u 0 0) (u + 3) (5594 * k + j)) ∧ r.2 = sI (sI N u 8 0) u 1 0) := by
    unfold FX12_back
    have x1 : mI (sI M1 u 0 0) (u + 4) k = 1 := by rw [mI_n1 (by omega), (A1 (u + 4) (by omega) (by omega) (by omega)).1]; exact y1
    rw [nmb, ob i1, if_pos (by decide), gp (inb_nn hk (by decide)), nn_ix (by omega), x1, if_pos (by decide)]
    refine imgB_so hk (fun N n1 n2 => ?_)
    have l : FX12_lasting u 0 N = some (0, sI (sI N u 8 0) u 1 0) := rfl
    rw [bo l]
    exact So.ok ⟨rfl, N, n1, n2, rfl⟩
  obtain ⟨⟨v, W⟩, w1, w2, N, n1, n2, w3⟩ := run
  have w2 : v = 0 := w2
  have w3 : W = sI (sI N u 8 0) u 1 0 := w3
  have B1 : ∀ q, q ≠ u → q ≠ u + 2 → Ea M1 W q := fun q a b => by
    rw [w3]
    exact (((Ea_sI a).tr (n1 q b)).tr (Ea_sI a)).tr (Ea_sI a)
  have E0 : ∀ q, q ≠ t → q ≠ t + 29 → (q < t + 1 ∨ t + 10 ≤ q) → q ≠ u → q ≠ u + 2 → Ea M W q := fun q a b c d e => (A1 q a b c).tr (B1 q d e)
  have C0 : ∀ q, t + 1 ≤ q → q < t + 10 → Ea C W q := fun q a b => by
    refine Ea.tr ?_ (B1 q (by omega) (by omega))
    rw [← hM1]
    exact (Ea_sI (by omega)).tr (Ea_sI (by omega))
  have uu : ∀ j, j ≠ 0 → j ≠ 1 → j ≠ 8 → mI W u j = mI M u j := fun j a b c => by
    rw [w3, mI_n2 b, mI_n2 c, (n1 u (by omega)).1, mI_n2 a, (A1 u (by omega) (by omega) (by omega)).1]
  refine ⟨0, M1, W, ?_, by rw [w1, w2], Λ, ?_⟩
  · unfold FX11_back
    have cl : FX4_clear (t + 29) C = some (sI C (t + 29) 3 0) := rfl
    rw [jb, if_neg z1, if_pos z2, gp (inb_nn hk (by decide)), nn_ix (by omega), y2, y1, if_pos (by decide), gp (inb_nn hk (by decide)), ob e1, ob cl, bo (grant_eq _ _ _), hM1]
  · have eT : ∀ q, u + 42 ≤ q → q < T → Ea M W q := fun q a b => E0 q (by omega) (by omega) (by omega) (by omega) (by omega)
    have hS : SR Λ W (u + 42) T (t + 1) (mI W (u + 2)) := by
      refine (hI.copy (e3.keep (C0 _ (by omega) (by omega)) (C0 _ (by omega) (by omega)) (C0 _ (by omega) (by omega)) (C0 _ (by omega) (by omega))) ?_ ?_ ?_ ?_ (fun j hj => ?_) (fun j hj => ?_) eT).row (fun j hj => ?_)
      · rw [(C0 (t + 1) (by omega) (by omega)).2.1]; exact e4
      · rw [(C0 (t + 1) (by omega) (by omega)).1]; exact e5
      · rw [(C0 (t + 1) (by omega) (by omega)).1]; exact e6
      · rw [(C0 (t + 1) (by omega) (by omega)).1]; exact e7
      · rw [(C0 (t + 1 + 5) (by omega) (by omega)).1, (C0 (t + 1 + 6) (by omega) (by omega)).1, (C0 (t + 1 + 7) (by omega) (by omega)).2.2.1]; exact e9 j hj
      · rw [(C0 (t + 1 + 8) (by omega) (by omega)).1]; exact e10 j hj
      · show mI W (u + 2) j = mI M (u + 3) (5594 * k + j)
        rw [w3, mI_n1 (by omega), mI_n1 (by omega), n2 j hj, mI_n1 (by omega), (A1 (u + 3) (by omega) (by omega) (by omega)).1]
    have h29 : ∀ j, mI W (t + 29) j = if j = 3 then 0 else mI M (t + 29) j := fun j => by
      rw [(B1 (t + 29) (by omega) (by omega)).1, ← hM1, mI_n1 (by omega)]
      by_cases y : j = 3
      · rw [if_pos y, y, mI_e]
      · rw [if_neg y, mI_n2 y, (e2 (t + 29) (by omega)).1]
    have hH : HR W (t + 29) u := HR.none hf (by rw [h29, if_neg (by decide)]; exact hf2) (by rw [h29, if_pos rfl]) (by rw [w3, mI_n2 (by decide), mI_e])
    have t16 : ∀ j, mI W t j = if j = 16 then 0 else mI M t j := fun j => by
      rw [(B1 t (by omega) (by omega)).1, ← hM1]
      by_cases y : j = 16
      · rw [if_pos y, y, mI_e]
      · rw [if_neg y, mI_n2 y, mI_n1 (by omega), (e2 t (by omega)).1]
    refine h.fin hS hH (fun q hq => by unfold UsedC at hq; exact E0 q (by omega) (by omega) (by omega) (by omega) (by omega)) (by rw [t16, if_pos rfl, w3, mI_e]) (fun j hj => by rw [t16, if_neg (by omega)]) (fun j hj => uu j (fun z => by rw [z] at hj; exact absurd hj (by decide)) (fun z => by rw [z] at hj; exact absurd hj (by decide)) (fun z => by rw [z] at hj; exact absurd hj (by decide)))
