/-! ===== image, back ===== -/
theorem SR.copy {Λ : Lam} {M N : Mem} {lo T b p : Nat} {r : Nat → Int32} (h : SR Λ M lo T p r) (h1 : TR N (b + 1) r) (j5 : mJ N b 5 = mJ M p 5) (i6 : mI N b 6 = mI M p 6) (i7 : mI N b 7 = mI M p 7) (i8 : mI N b 8 = mI M p 8) (c : ∀ k, k < 6 → mI N (b + 5) k = mI M (p + 5) k ∧ mI N (b + 6) k = mI M (p + 6) k ∧ mR N (b + 7) k = mR M (p + 7) k) (c8 : ∀ k, k < 3 → mI N (b + 8) k = mI M (p + 8) k) (eT : ∀ q, lo ≤ q → q < T → Ea M N q) : SR Λ N lo T b r := by
  obtain ⟨-, h2, ⟨a1, a2⟩, ⟨m, s1', s2, s3, s4⟩, ⟨n, x1, x2, x3, x4, x5, x6⟩, d1, d2, d3, d4⟩ := h
  refine ⟨h1, h2, ⟨by rw [j5]; exact a1, a2⟩, ⟨m, s1', by rw [i6]; exact s2, s3, fun k hk => ?_⟩, ⟨n, x1, by rw [i7]; exact x2, x3, by rw [i8]; exact x4, x5, fun i hi => ?_⟩, by rw [c8 0 (by decide)]; exact d1, by rw [c8 1 (by decide)]; exact d2, by rw [c8 2 (by decide)]; exact d3, d4⟩
  · rw [(c k (by omega)).1, (c k (by omega)).2.1]; exact s4 k hk
  · obtain ⟨a, y1, y2, y3, y4, y5⟩ := x6 i hi
    exact ⟨a, by rw [(c i (by omega)).2.2]; exact y1, y2, y3, y4.keep (eT _ (by omega) (by omega)) (eT _ (by omega) (by omega)) (eT _ (by omega) (by omega)), y5⟩
def UsedG (t u T q : Nat) : Prop := q = t + 174 ∨ q = t + 175 ∨ (t + 179 ≤ q ∧ q < t + 203) ∨ (u + 15 ≤ q ∧ q < u + 18) ∨ q = u + 39 ∨ (u + 42 ≤ q ∧ q < T)
theorem InvL.gen {Λ : Lam} {t u T : Nat} {M N : Mem} (h : InvL Λ t u T M) (hS : SR Λ N (u + 42) T (t + 1) (mI N (u + 2))) (hI : IMr Λ N t u T) (hH : HR N (t + 29) u) (hP : TP t u N) (hM : MSr N t u) (e : ∀ q, UsedG t u T q → Ea M N q) (e20 : mI N u 20 = mI M u 20) : InvL Λ t u T N := by
  obtain ⟨h1, h2, h3, h4, h5, h6, h7, h8, h9, h10⟩ := h
  have eT : ∀ q, u + 42 ≤ q → q < T → Ea M N q := fun q a b => e q (by unfold UsedG; omega)
  refine ⟨h1, h2, hS, hI, hH, hP, hM, h8.keep (fun q a b => e q (by unfold UsedG; omega)) eT (Nat.le_refl _), h9.keep (fun q a b => e q (by unfold UsedG; omega)) eT (Nat.le_refl _), ?_⟩
  obtain ⟨k1, k2, k3, k4⟩ := h10
  exact ⟨k1.keepE (e _ (by unfold UsedG; omega)).2.1 (e _ (by unfold UsedG; omega)).2.1 (e _ (by unfold UsedG; omega)).2.1 (e _ (by unfold UsedG; omega)).2.1, by rw [(e (t + 174) (by unfold UsedG; omega)).2.2.2]; exact k2, by rw [(e (t + 175) (by unfold UsedG; omega)).2.2.2]; exact k3, by rw [e20]; exact k4⟩
theorem two_cases (p : Int32) : (∃ k, k < 2 ∧ p = Int32.ofNat k ∧ ¬ p < 0 ∧ p < 2 ∧ FX12_in p.toInt64 0 1 = some 1) ∨ ((p < 0 ∨ ¬ p < 2) ∧ FX12_in p.toInt64 0 1 = some 0) := by
  have i9 : FX12_in p.toInt64 0 1 = some (if 0 ≤ p.toInt ∧ p.toInt ≤ 1 then 1 else 0) := in_i p 0 1
  by_cases hp : 0 ≤ p.toInt ∧ p.toInt ≤ 1
  · rw [if_pos hp] at i9
    refine Or.inl ⟨p.toInt.toNat, by omega, (nn_of hp.1).symm, fun z => ?_, ?_, i9⟩
    · rw [i_lt0] at z; omega
    · rw [Int32.lt_iff_toInt_lt, show (2 : Int32).toInt = 2 from rfl]; omega
  · rw [if_neg hp] at i9
    refine Or.inr ⟨?_, i9⟩
    by_cases z : p < 0
    · exact Or.inl z
    · refine Or.inr (fun y => hp ?_)
      rw [i_lt0] at z
      rw [Int32.lt_iff_toInt_lt, show (2 : Int32).toInt = 2 from rfl] at y
      omega
theorem st_image : St_image Inv := by
  rintro t u T M p1 ⟨Λ, h⟩
  have hu := h.1
  have hT' := h.2.1
  rcases two_cases p1 with ⟨k, hk, rfl, z1, z2, i1⟩ | ⟨z, i1⟩
  rotate_left
  · refine st_ref (j := 0) h (by decide) ?_ ?_
    · unfold FX11_image
      rw [jb]
      by_cases y : p1 < 0
      · rw [if_pos y]; rfl
      · rw [if_neg y, if_neg (z.resolve_left y)]; rfl
    · unfold FX12_image
      rw [nmb, ob i1, if_neg (by decide)]; rfl
  obtain ⟨C, e1, e2, e3, e4, e5, e6, e7, e8, e9, e10⟩ := copyS (b := t + 10 + 1 + 9 * k) (p := t + 1) (M := M) (r := mI M (u + 2)) (by omega) h.2.2.1.1
  generalize hM1 : sI (sI C (t + 10 + 1 + 9 * k) 9 1) t 16 0 = M1
  have A1 : ∀ q, q ≠ t → (q < t + 11 + 9 * k ∨ t + 20 + 9 * k ≤ q) → Ea M M1 q := fun q a b => by
    rw [← hM1]
    exact ((e2 q (by omega)).tr (Ea_sI (by omega))).tr (Ea_sI a)
  have A2 : ∀ q, t + 11 + 9 * k < q → q < t + 20 + 9 * k → Ea C M1 q := fun q a b => by
    rw [← hM1]
    exact (Ea_sI (by omega)).tr (Ea_sI (by omega))
  have run : So (FX12_image u (Int32.ofNat k) M1) (fun r => r.1 = 0 ∧ ∃ N, Eo (fun q => q = u + 3) (sI M1 u 0 0) N ∧ (∀ j, j < 5594 → mI N (u + 3) (5594 * k + j) = mI (sI M1 u 0 0) (u + 2) j) ∧ (∀ j, (j < 5594 * k ∨ 5594 * k + 5594 ≤ j) → mI N (u + 3) j = mI (sI M1 u 0 0) (u + 3) j) ∧ r.2 = sI (sI N (u + 4) k 1) u 1 0) := by
    unfold FX12_image
    rw [nmb, ob i1, if_pos (by decide)]
    refine imgC_so hk (fun N n1 n2 n3 => ?_)
    rw [gp (inb_nn hk (by decide)), nmb, nn_ix (by omega), bo (tell_pos (by decide))]
    exact So.ok ⟨rfl, N, n1, n2, n3, rfl⟩
  obtain ⟨⟨v, W⟩, w1, w2, N, n1, n2, n3, w3⟩ := run
  have w2 : v = 0 := w2
  have w3 : W = sI (sI N (u + 4) k 1) u 1 0 := w3
  have B1 : ∀ q, q ≠ u → q ≠ u + 3 → q ≠ u + 4 → Ea M1 W q := fun q a b c => by
    rw [w3]
    exact (((Ea_sI a).tr (n1 q b)).tr (Ea_sI c)).tr (Ea_sI a)
  have E0 : ∀ q, q ≠ t → (q < t + 11 + 9 * k ∨ t + 20 + 9 * k ≤ q) → q ≠ u → q ≠ u + 3 → q ≠ u + 4 → Ea M W q := fun q a b c d e => (A1 q a b).tr (B1 q c d e)
  have uu : ∀ j, j ≠ 0 → j ≠ 1 → mI W u j = mI M u j := fun j a b => by
    rw [w3, mI_n2 b, mI_n1 (by omega), (n1 u (by omega)).1, mI_n2 a, (A1 u (by omega) (by omega)).1]
  refine ⟨0, M1, W, ?_, by rw [w1, w2], Λ, ?_⟩
  · unfold FX11_image
    rw [jb, if_neg z1, if_pos z2, gp (inb_nn hk (by decide)), nn_ix (by omega), ob e1, gp (inb_nn hk (by decide)), nmb, bo (grant_eq _ _ _), hM1]
  · have eT : ∀ q, u + 42 ≤ q → q < T → Ea M W q := fun q a b => E0 q (by omega) (by omega) (by omega) (by omega) (by omega)
    have hS : SR Λ W (u + 42) T (t + 1) (mI W (u + 2)) := by
      rw [(E0 (u + 2) (by omega) (by omega) (by omega) (by omega) (by omega)).1]
      exact h.2.2.1.keep (fun q a b => E0 q (by omega) (by omega) (by omega) (by omega) (by omega)) eT (Nat.le_refl _)
    have hH : HR W (t + 29) u := h.hr (fun q a b => E0 q (by omega) (by omega) (by omega) (by omega) (by omega)) (E0 _ (by omega) (by omega) (by omega) (by omega) (by omega)).1 (E0 _ (by omega) (by omega) (by omega) (by omega) (by omega)).1 (uu 8 (by decide) (by decide))
    have hP : TP t u W := h.2.2.2.2.2.1.keepE (by rw [(E0 (t + 171) (by omega) (by omega) (by omega) (by omega) (by omega)).1]) (E0 (t + 172) (by omega) (by omega) (by omega) (by omega) (by omega)).1 (uu 13 (by decide) (by decide)) (E0 (u + 9) (by omega) (by omega) (by omega) (by omega) (by omega)).1
    have t16 : ∀ j, mI W t j = if j = 16 then 0 else mI M t j := fun j => by
      rw [(B1 t (by omega) (by omega) (by omega)).1, ← hM1]
      by_cases y : j = 16
      · rw [if_pos y, y, mI_e]
      · rw [if_neg y, mI_n2 y, mI_n1 (by omega), (e2 t (by omega)).1]
    have hM : MSr W t u := h.2.2.2.2.2.2.1.upd (by rw [t16, if_pos rfl, w3, mI_e]) (by rw [t16, if_neg (by decide)]) (by rw [t16, if_neg (by decide)]) (by rw [(E0 (t + 171) (by omega) (by omega) (by omega) (by omega) (by omega)).1]) (uu _ (by decide) (by decide)) (uu _ (by decide) (by decide)) (uu _ (by decide) (by decide)) (uu _ (by decide) (by decide)) (fun j hj => by rw [(E0 (t + 275) (by omega) (by omega) (by omega) (by omega) (by omega)).1, (E0 (u + 1) (by omega) (by omega) (by omega) (by omega) (by omega)).1]; exact h.2.2.2.2.2.2.1.2.2.2.2.1 j hj) (E0 (t + 276) (by omega) (by omega) (by omega) (by omega) (by omega)).1 (E0 (u + 41) (by omega) (by omega) (by omega) (by omega) (by omega)).1
    refine h.gen hS (fun i hi => ?_) hH hP hM (fun q hq => by unfold UsedG at hq; exact E0 q (by omega) (by omega) (by omega) (by omega) (by omega)) (uu 20 (by decide) (by decide))
    have u4 : ∀ j, mI W (u + 4) j = if j = k then 1 else mI M (u + 4) j := fun j => by
      rw [w3, mI_n1 (by omega)]
      by_cases y : j = k
      · rw [if_pos y, y, mI_e]
      · rw [if_neg y, mI_n2 y, (n1 (u + 4) (by omega)).1, mI_n1 (by omega), (A1 (u + 4) (by omega) (by omega)).1]
    have u3 : ∀ j, mI W (u + 3) j = mI N (u + 3) j := fun j => by rw [w3, mI_n1 (by omega), mI_n1 (by omega)]
    by_cases ik : i = k
    · subst ik
      rw [u4, if_pos rfl]
      have f9 : mI W (t + 11 + 9 * i) 9 = 1 := by
        rw [(B1 (t + 11 + 9 * i) (by omega) (by omega) (by omega)).1, ← hM1, mI_n1 (by omega), show t + 11 + 9 * i = t + 10 + 1 + 9 * i by omega, mI_e]
      refine ⟨Or.inr rfl, f9, fun _ => ?_⟩
      have wb : ∀ j, j ≠ 9 → mI W (t + 10 + 1 + 9 * i) j = mI C (t + 10 + 1 + 9 * i) j := fun j hj => by
        rw [(B1 (t + 10 + 1 + 9 * i) (by omega) (by omega) (by omega)).1, ← hM1, mI_n1 (by omega), mI_n2 hj]
      have CW : ∀ q, t + 11 + 9 * i < q → q < t + 20 + 9 * i → Ea C W q := fun q a b => (A2 q a b).tr (B1 q (by omega) (by omega) (by omega))
      have hc : SR Λ W (u + 42) T (t + 10 + 1 + 9 * i) (mI M (u + 2)) := by
        refine h.2.2.1.copy (e3.keep (CW _ (by omega) (by omega)) (CW _ (by omega) (by omega)) (CW _ (by omega) (by omega)) (CW _ (by omega) (by omega))) ?_ ?_ ?_ ?_ (fun j hj => ?_) (fun j hj => ?_) eT
        · rw [(B1 (t + 10 + 1 + 9 * i) (by omega) (by omega) (by omega)).2.1, ← hM1, mJ_sI, mJ_sI]; exact e4
        · rw [wb 6 (by decide)]; exact e5
        · rw [wb 7 (by decide)]; exact e6
        · rw [wb 8 (by decide)]; exact e7
        · rw [(CW (t + 10 + 1 + 9 * i + 5) (by omega) (by omega)).1, (CW (t + 10 + 1 + 9 * i + 6) (by omega) (by omega)).1, (CW (t + 10 + 1 + 9 * i + 7) (by omega) (by omega)).2.2.1]
          exact e9 j hj
        · rw [(CW (t + 10 + 1 + 9 * i + 8) (by omega) (by omega)).1]; exact e10 j hj
      rw [show t + 11 + 9 * i = t + 10 + 1 + 9 * i by omega]
      refine hc.row (fun j hj => ?_)
      rw [u3, n2 j hj, mI_n1 (by omega), (A1 (u + 2) (by omega) (by omega)).1]
    · rw [u4, if_neg ik]
      obtain ⟨y1, y2, y3⟩ := h.2.2.2.1 i hi
      refine ⟨y1, by rw [(E0 (t + 11 + 9 * i) (by omega) (by omega) (by omega) (by omega) (by omega)).1]; exact y2, fun y => ?_⟩
      refine ((y3 y).keep (fun q a b => E0 q (by omega) (by omega) (by omega) (by omega) (by omega)) eT (Nat.le_refl _)).row (fun j hj => ?_)
      rw [u3, n3 _ (by omega), mI_n1 (by omega), (A1 (u + 3) (by omega) (by omega)).1]
