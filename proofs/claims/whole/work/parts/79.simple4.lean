/-! ===== hand, count, feed, end, few ===== -/
theorem gp {τ : Type} {c : Bool} {k : Option τ} (h : c = true) : gd c k = k := by unfold gd; rw [if_pos h]
theorem nmb {α τ : Type} {a : α} {k : α → Option τ} : nm a k = k a := rfl
theorem pl_cases (p : Int32) : (∃ k, k < 2 ∧ p = Int32.ofNat k ∧ FX11_isPlayer p = some 1 ∧ FX12_isPlayer p = some 1) ∨ (FX11_isPlayer p = some 0 ∧ FX12_isPlayer p = some 0) := by
  by_cases hp : p = 0 ∨ p = 1
  · obtain ⟨k, hk, e⟩ := pl_nn hp
    exact Or.inl ⟨k, hk, e, by rw [isPlayer_eq, if_pos hp], by rw [isPlayerM, if_pos hp]⟩
  · exact Or.inr ⟨by rw [isPlayer_eq, if_neg hp], by rw [isPlayerM, if_neg hp]⟩
theorem TR.own {M : Mem} {b k : Nat} {r : Nat → Int32} (h : TR M b r) (hk : k < 2) : Bs (mJ M (b + 1) k) (fun c => decide (r (18 + c) = Int32.ofNat k)) := by
  obtain rfl | rfl : k = 0 ∨ k = 1 := by omega
  · exact h.1
  · exact h.2.1
theorem TR.sc {M : Mem} {b k : Nat} {r : Nat → Int32} (h : TR M b r) (hk : k < 2) : mI M (b + 2) k = r (16 + k) := by
  obtain rfl | rfl : k = 0 ∨ k = 1 := by omega
  · exact h.2.2.2.2.2.2.2.2.2.2.2.2.1
  · exact h.2.2.2.2.2.2.2.2.2.2.2.2.2.1
theorem st_hand : St_hand Inv := by
  rintro t u T M p1 p2 ⟨Λ, h⟩
  have hu := h.1
  have hR := h.2.2.1.1
  have hV := h.2.2.1.2.1
  have x1 : mI (sI M u 0 0) (u + 2) = mI M (u + 2) := by funext k; simp (disch := omega) only [mI_n1, mI_n2, mI_e, mJ_n1, mJ_n2, mJ_e, mI_sJ, mI_sR, mJ_sI, mJ_sR, mR_sI, mR_sJ]
  rcases pl_cases p1 with ⟨k, hk, rfl, i1, i2⟩ | ⟨i1, i2⟩
  rotate_left
  · refine ⟨-1, sI M u 0 0, ?_, ?_, Λ, h.u0 0⟩
    · unfold FX11_hand; rw [ob i1, jb, if_pos rfl]
    · unfold FX12_hand nm; simp only []; rw [ob i2, jb, if_pos rfl]
  have i9 : FX12_in p2.toInt64 0 8 = some (if 0 ≤ p2.toInt ∧ p2.toInt ≤ 8 then 1 else 0) := in_i p2 0 8
  by_cases hp : 0 ≤ p2.toInt ∧ p2.toInt ≤ 8
  rotate_left
  · rw [if_neg hp] at i9
    refine ⟨-1, sI M u 0 0, ?_, ?_, Λ, h.u0 0⟩
    · unfold FX11_hand
      rw [ob i1, jb, if_neg (by decide)]
      by_cases z : p2 < 0
      · rw [if_pos z]
      · rw [if_neg z, if_neg (fun y => hp ⟨by rw [i_lt0] at z; omega, Int32.le_iff_toInt_le.mp y⟩)]
    · unfold FX12_hand nm; simp only []
      rw [ob i2, jb, if_neg (by decide), ob i9, if_neg (by decide)]
  rw [if_pos hp] at i9
  obtain ⟨m, hm, rfl⟩ := nn_exi (i := p2) hp.1
  rw [nn_int hm] at hp
  have z1 : ¬ Int32.ofNat m < 0 := by rw [i_lt0, nn_int hm]; omega
  have z2 : Int32.ofNat m ≤ 8 := (nn_le (b := 8) hm (by omega)).mpr (by omega)
  have hB := hR.own hk
  have x3 : ∀ {v : Int32}, FX11_hand t (Int32.ofNat k) (Int32.ofNat m) M = some v → FX12_hand u (Int32.ofNat k) (Int32.ofNat m) M = some (v, sI M u 0 0) → ∃ v M2, FX11_hand t (Int32.ofNat k) (Int32.ofNat m) M = some v ∧ FX12_hand u (Int32.ofNat k) (Int32.ofNat m) M = some (v, M2) ∧ Inv t u T M2 := fun {v} a b => ⟨v, sI M u 0 0, a, b, Λ, h.u0 0⟩
  have g2 : inb (Int32.ofNat k) 2 = true := inb_nn hk (by decide)
  have g3 : ix (Int32.ofNat k) = k := nn_ix (by omega)
  by_cases m0 : m = 0
  · subst m0
    refine x3 (v := Int32.ofNat (cs (fun c => decide (mI M (u + 2) (18 + c) = Int32.ofNat k))).length) ?_ ?_
    · unfold FX11_hand
      rw [ob i1, jb, if_neg (by decide), if_neg z1, if_pos z2, gp g2, nmb, g3, if_neg (by decide), ob hB.count]
    · unfold FX12_hand nm lsw; simp only []
      rw [ob i2, jb, if_neg (by decide), ob i9, if_pos (by decide), if_pos (by decide), cardsAt_eq, x1]; rfl
  by_cases m7 : m = 7
  · subst m7
    refine x3 (v := mI M (u + 2) (16 + k)) ?_ ?_
    · unfold FX11_hand
      rw [ob i1, jb, if_neg (by decide), if_neg z1, if_pos z2, gp g2, nmb, g3, if_pos (by decide), if_neg (by decide), gp g2, hR.sc hk]
    · unfold FX12_hand nm lsw lsw; simp only []
      rw [ob i2, jb, if_neg (by decide), ob i9, if_pos (by decide), if_neg (by decide), if_pos (by decide), show (16 : Int32) + Int32.ofNat k = Int32.ofNat (16 + k) from nn_add 16 k, gp (inb_nn (by omega) (by decide)), nn_ix (by omega), x1]
  by_cases m8 : m = 8
  · subst m8
    have hP := hB.andnot hR.2.2.2.1
    have hc : cs (fun c => decide (mI M (u + 2) (18 + c) = Int32.ofNat k) && !decide (mI M (u + 2) (70 + c) = 1)) = cs (fun c => decide (mI M (u + 2) (18 + c) = Int32.ofNat k ∧ mI M (u + 2) (70 + c) = 0)) := by
      unfold cs
      refine List.filter_congr (fun c hc => ?_)
      rcases hV.2.2.2.2.2.2.2.2.2.2.2.2.1 c (List.mem_range.mp hc) with z | z <;> rw [z] <;> simp
    refine x3 (v := Int32.ofNat (cs (fun c => decide (mI M (u + 2) (18 + c) = Int32.ofNat k ∧ mI M (u + 2) (70 + c) = 0))).length) ?_ ?_
    · unfold FX11_hand
      rw [ob i1, jb, if_neg (by decide), if_neg z1, if_pos z2, gp g2, nmb, g3, if_pos (by decide), if_pos (by decide), if_neg (by decide), ob hP.count, hc]
    · unfold FX12_hand nm lsw lsw lsw; simp only []
      rw [ob i2, jb, if_neg (by decide), ob i9, if_pos (by decide), if_neg (by decide), if_neg (by decide), if_pos (by decide), unplayed_eq, x1]; rfl
  · refine x3 (v := at1 (cs (fun c => decide (mI M (u + 2) (18 + c) = Int32.ofNat k))) (m - 1)) ?_ ?_
    · unfold FX11_hand
      rw [ob i1, jb, if_neg (by decide), if_neg z1, if_pos z2, gp g2, nmb, g3, if_pos (show ¬ Int32.ofNat m = 0 from fun z => m0 ((nn_eq (b := 0) (by omega) (by omega)).mp z)), if_pos (show ¬ Int32.ofNat m = 7 from fun z => m7 ((nn_eq (b := 7) (by omega) (by omega)).mp z)), if_pos (show ¬ Int32.ofNat m = 8 from fun z => m8 ((nn_eq (b := 8) (by omega) (by omega)).mp z)), show Int32.ofNat m - 1 = Int32.ofNat (m - 1) from nn_sub (b := 1) (by omega) (by omega), ob (hB.at (by omega))]
    · unfold FX12_hand nm lsw lsw lsw lsw; simp only []
      rw [ob i2, jb, if_neg (by decide), ob i9, if_pos (by decide), nn_int hm, if_neg (by omega), if_neg (by omega), if_neg (by omega), show Int32.ofNat m - 1 = Int32.ofNat (m - 1) from nn_sub (b := 1) (by omega) (by omega), cardOf_eq _ _ _ (by omega), x1]; rfl
/-- the tape may have changed -/
theorem InvL.fedIn {Λ : Lam} {t u T : Nat} {M N : Mem} (h : InvL Λ t u T M) (hP : TP t u N) (hE : FeedE t u M N) : InvL Λ t u T N := by
  have hu := h.1
  have hT := h.2.1
  obtain ⟨f1, f2, -, -, f5, -, -⟩ := hE
  have E0 : ∀ q, q ≠ t + 171 → q ≠ t + 172 → q ≠ u → q ≠ u + 9 → Ea M N q := fun q a b c d => f1 q (by omega)
  obtain ⟨g1, g2⟩ := h.SHk (N := N) (fun q hq => E0 q (by omega) (by omega) (by omega) (by omega)) (f5 8 (by decide) (by decide))
  obtain ⟨h1, h2, h3, h4, h5, h6, h7, h8, h9, h10⟩ := h
  have eT : ∀ q, u + 42 ≤ q → q < T → Ea M N q := fun q a b => E0 q (by omega) (by omega) (by omega) (by omega)
  refine ⟨h1, h2, g1, h4.keep (fun q a b => E0 q (by omega) (by omega) (by omega) (by omega)) (E0 _ (by omega) (by omega) (by omega) (by omega)).1 (E0 _ (by omega) (by omega) (by omega) (by omega)).1 eT (Nat.le_refl _), g2, hP, ?_, h8.keep (fun q a b => E0 q (by omega) (by omega) (by omega) (by omega)) eT (Nat.le_refl _), h9.keep (fun q a b => E0 q (by omega) (by omega) (by omega) (by omega)) eT (Nat.le_refl _), ?_⟩
  · have e0 := (E0 t (by omega) (by omega) (by omega) (by omega)).1
    refine h7.upd (by rw [e0, f5 1 (by decide) (by decide)]; exact h7.1) (by rw [e0]) (by rw [e0]) (f2 3 (by decide)) (f5 11 (by decide) (by decide)) (f5 64 (by decide) (by decide)) (f5 18 (by decide) (by decide)) (f5 67 (by decide) (by decide)) (fun j hj => ?_) (E0 _ (by omega) (by omega) (by omega) (by omega)).1 (E0 _ (by omega) (by omega) (by omega) (by omega)).1
    rw [(E0 (t + 275) (by omega) (by omega) (by omega) (by omega)).1, (E0 (u + 1) (by omega) (by omega) (by omega) (by omega)).1]; exact h7.2.2.2.2.1 j hj
  · obtain ⟨k1, k2, k3, k4⟩ := h10
    exact ⟨k1.keepE (E0 _ (by omega) (by omega) (by omega) (by omega)).2.1 (E0 _ (by omega) (by omega) (by omega) (by omega)).2.1 (E0 _ (by omega) (by omega) (by omega) (by omega)).2.1 (E0 _ (by omega) (by omega) (by omega) (by omega)).2.1, by rw [(E0 (t + 174) (by omega) (by omega) (by omega) (by omega)).2.2.2]; exact k2, by rw [(E0 (t + 175) (by omega) (by omega) (by omega) (by omega)).2.2.2]; exact k3, by rw [f5 20 (by decide) (by decide)]; exact k4⟩
theorem st_feed : St_feed Inv := by
  rintro t u T M p1 p2 p3 p4 p5 ⟨Λ, h⟩
  have hu := h.1
  have hT := h.2.1
  obtain ⟨v, M1, M2, e1, e2, e3, f1, f2, f3, f4, f5, f6, f7⟩ := feed_all (p1 := p1) (p2 := p2) (p3 := p3) (p4 := p4) (p5 := p5) hu h.2.2.2.2.2.1
  exact ⟨v, M1, M2, e1, e2, Λ, h.fedIn e3 ⟨f1, f2, f3, f4, f5, f6, f7⟩⟩
theorem st_end : St_end Inv := by
  rintro t u T M p1 ⟨Λ, h⟩
  have hu := h.1
  have hT := h.2.1
  obtain ⟨v, M1, M2, e1, e2, e3, f1, f2, f3, f4, f5, f6, f7⟩ := end_all (p1 := p1) hu h.2.2.2.2.2.1
  exact ⟨v, M1, M2, e1, e2, Λ, h.fedIn e3 ⟨f1, f2, f3, f4, f5, f6, f7⟩⟩
