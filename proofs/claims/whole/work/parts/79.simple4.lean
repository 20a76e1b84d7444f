/-! ===== hand, count, feed, end, few ===== -/
theorem gp {τ : Type} {c : Bool} {k : Option τ} (h : c = true) : gd c k = k := by unfold gd; rw [if_pos h]
theorem pl_cases (p : Int32) : (∃ k, k < 2 ∧ p = Int32.ofNat k ∧ FX11_isPlayer p = some 1 ∧ FX12_isPlayer p = some 1) ∨ (FX11_isPlayer p = some 0 ∧ FX12_isPlayer p = some 0) := by
  by_cases hp : p = 0 ∨ p = 1
  · obtain ⟨k, hk, e⟩ := pl_nn hp
    exact Or.inl ⟨k, hk, e, by rw [isPlayer_eq, if_pos hp], by rw [isPlayerM, if_pos hp]⟩
  · exact Or.inr ⟨by rw [isPlayer_eq, if_neg hp], by rw [isPlayerM, if_neg hp]⟩
theorem TR.own {M : Mem} {b k : Nat} {r : Nat → Int32} (h : TR M b r) (hk : k < 2) : Bs (mJ M (b + 1) k) (fun c => decide (r (18 + c) = Int32.ofNat k)) := by
  obtain rfl | rfl : k = 0 ∨ k = 1 := by omega
  · exact h.1
  · exact h.2.1
theorem TR.sc {M : Mem} {b k : Nat} {r : Nat → Int32} (h : TR M b r) (hk : k < 2) : mI M (b + 2) k = r (16 + k) := by
  obtain rfl | rfl : k = 0 ∨ k = 1 := by omega
  · exact h.2.2.2.2.2.2.2.2.2.2.2.2.1
  · exact h.2.2.2.2.2.2.2.2.2.2.2.2.2.1
theorem st_hand : St_hand Inv := by
  rintro t u T M p1 p2 ⟨Λ, h⟩
  have hu := h.1
  have hR := h.2.2.1.1
  have hV := h.2.2.1.2.1
  have x1 : mI (sI M u 0 0) (u + 2) = mI M (u + 2) := by funext k; simp (disch := omega) only [mI_n1, mI_n2, mI_e, mJ_n1, mJ_n2, mJ_e, mI_sJ, mI_sR, mJ_sI, mJ_sR, mR_sI, mR_sJ]
  rcases pl_cases p1 with ⟨k, hk, rfl, i1, i2⟩ | ⟨i1, i2⟩
  rotate_left
  · refine ⟨-1, sI M u 0 0, ?_, ?_, Λ, h.u0 0⟩
    · unfold FX11_hand; rw [ob i1, jb, if_pos rfl]
    · unfold FX12_hand nm; simp only []; rw [ob i2, jb, if_pos rfl]
  have i9 : FX12_in p2.toInt64 0 8 = some (if 0 ≤ p2.toInt ∧ p2.toInt ≤ 8 then 1 else 0) := in_i p2 0 8
  by_cases hp : 0 ≤ p2.toInt ∧ p2.toInt ≤ 8
  rotate_left
  · rw [if_neg hp] at i9
    refine ⟨-1, sI M u 0 0, ?_, ?_, Λ, h.u0 0⟩
    · unfold FX11_hand
      rw [ob i1, jb, if_neg (by decide)]
      by_cases z : p2 < 0
      · rw [if_pos z]
      · rw [if_neg z, if_neg (fun y => hp ⟨by rw [i_lt0] at z; omega, Int32.le_iff_toInt_le.mp y⟩)]
    · unfold FX12_hand nm; simp only []
      rw [ob i2, jb, if_neg (by decide), ob i9, if_neg (by decide)]
  rw [if_pos hp] at i9
  obtain ⟨m, hm, rfl⟩ := nn_exi (i := p2) hp.1
  rw [nn_int hm] at hp
  have z1 : ¬ Int32.ofNat m < 0 := by rw [i_lt0, nn_int hm]; omega
  have z2 : Int32.ofNat m ≤ 8 := (nn_le (b := 8) hm (by omega)).mpr (by omega)
  have hB := hR.own hk
  have c1 : ∀ {v : Int32} {C : Option Int32} {R : Option (Int32 × Mem)}, FX11_hand t (Int32.ofNat k) (Int32.ofNat m) M = C → FX12_hand u (Int32.ofNat k) (Int32.ofNat m) M = R → C = some v → R = some (v, sI M u 0 0) → ∃ v M2, FX11_hand t (Int32.ofNat k) (Int32.ofNat m) M = some v ∧ FX12_hand u (Int32.ofNat k) (Int32.ofNat m) M = some (v, M2) ∧ Inv t u T M2 := fun {v C R} a b c d => ⟨v, sI M u 0 0, a.trans c, b.trans d, Λ, h.u0 0⟩
  have E1 : FX11_hand t (Int32.ofNat k) (Int32.ofNat m) M = (if ¬ Int32.ofNat m = 0 then (if ¬ Int32.ofNat m = 7 then (if ¬ Int32.ofNat m = 8 then FX11_cardAt (mJ M (t + 1 + 1 + 1) k) (Int32.ofNat m - 1) else FJ_Long_bitCount (mJ M (t + 1 + 1 + 1) k &&& (mJ M (t + 1 + 1) 4 ^^^ (-1)))) else some (mI M (t + 1 + 1 + 2) k)) else FJ_Long_bitCount (mJ M (t + 1 + 1 + 1) k)) := by
    unfold FX11_hand
    rw [ob i1, jb, if_neg (by decide), if_neg z1, if_pos z2, gp (inb_nn hk (by decide)), gp (inb_nn hk (by decide)), nn_ix (by omega)]
    unfold nm
    simp only [Option.bind_some_fun, Option.bind_fun_some]
  sorry
