/-! ===== the reference's snapshots ===== -/
theorem nn_mul (a b : Nat) : Int32.ofNat a * Int32.ofNat b = Int32.ofNat (a * b) := (Int32.ofNat_mul a b).symm
theorem ge_self (n : Nat) : ¬ ¬ Int32.ofNat n ≤ Int32.ofNat n := fun h => h (Int32.le_refl _)
theorem nle {i n : Nat} (h : i < n) (hn : n < 2147483648) : ¬ Int32.ofNat n ≤ Int32.ofNat i := by
  rw [nn_le hn (by omega)]; omega
theorem keepAll_so {u i : Nat} {M : Mem} (hi : i ≤ 17) : So (FX12_keepAll u (Int32.ofNat i) M) (fun N => Eo (fun q => q = u + 5) M N ∧ (∀ j, j < 122 → mI N (u + 5) (122 * i + j) = mI M (u + 2) (8 + j)) ∧ ∀ k, (k < 122 * i ∨ 122 * i + 122 ≤ k) → mI N (u + 5) k = mI M (u + 5) k) := by
  unfold FX12_keepAll
  refine loop_for 122 (by decide) (fun n N => Eo (fun q => q = u + 5) M N ∧ (∀ j, j < n → mI N (u + 5) (122 * i + j) = mI M (u + 2) (8 + j)) ∧ ∀ k, (k < 122 * i ∨ 122 * i + 122 ≤ k) → mI N (u + 5) k = mI M (u + 5) k) M ⟨Eo.rf, fun j hj => absurd hj (by omega), fun k _ => rfl⟩ (fun N rec hI => ?_) (fun n N rec hn hI hr => ?_)
  · exact So.ite (fun _ => So.ok hI) (fun h => absurd h (ge_self 122))
  · obtain ⟨hE, h1, h2⟩ := hI
    have e1 : (8 : Int32) + Int32.ofNat n = Int32.ofNat (8 + n) := nn_add 8 n
    have e2 : (122 : Int32) * Int32.ofNat i + Int32.ofNat n = Int32.ofNat (122 * i + n) := by
      rw [show (122 : Int32) * Int32.ofNat i = Int32.ofNat (122 * i) from nn_mul 122 i, nn_add]
    refine So.ite (fun h => absurd h (nle hn (by decide))) (fun _ => So_gd (by rw [e1]; exact inb_nn (by omega) (by decide)) (So_gd (by rw [e2]; exact inb_nn (by omega) (by decide)) (So_nm (So_nm (hr _ ?_)))))
    rw [e1, e2, nn_ix (by omega), nn_ix (by omega)]
    refine ⟨hE.tr (Eo_sI rfl), fun j hj => ?_, fun k hk => ?_⟩
    · rw [mI_sI]
      by_cases hjn : j = n
      · subst hjn
        rw [if_pos ⟨rfl, rfl⟩, (hE (u + 2) (by omega)).1]
      · rw [if_neg (by omega)]; exact h1 j (by omega)
    · rw [mI_sI, if_neg (by omega)]; exact h2 k hk
theorem putBack_so {u i : Nat} {M : Mem} (hi : i ≤ 17) : So (FX12_putBack u (Int32.ofNat i) M) (fun N => Eo (fun q => q = u + 2) M N ∧ (∀ j, j < 122 → mI N (u + 2) (8 + j) = mI M (u + 5) (122 * i + j)) ∧ ∀ k, (k < 8 ∨ 130 ≤ k) → mI N (u + 2) k = mI M (u + 2) k) := by
  unfold FX12_putBack
  refine loop_for 122 (by decide) (fun n N => Eo (fun q => q = u + 2) M N ∧ (∀ j, j < n → mI N (u + 2) (8 + j) = mI M (u + 5) (122 * i + j)) ∧ ∀ k, (k < 8 ∨ 130 ≤ k) → mI N (u + 2) k = mI M (u + 2) k) M ⟨Eo.rf, fun j hj => absurd hj (by omega), fun k _ => rfl⟩ (fun N rec hI => ?_) (fun n N rec hn hI hr => ?_)
  · exact So.ite (fun _ => So.ok hI) (fun h => absurd h (ge_self 122))
  · obtain ⟨hE, h1, h2⟩ := hI
    have e1 : (8 : Int32) + Int32.ofNat n = Int32.ofNat (8 + n) := nn_add 8 n
    have e2 : (122 : Int32) * Int32.ofNat i + Int32.ofNat n = Int32.ofNat (122 * i + n) := by
      rw [show (122 : Int32) * Int32.ofNat i = Int32.ofNat (122 * i) from nn_mul 122 i, nn_add]
    refine So.ite (fun h => absurd h (nle hn (by decide))) (fun _ => So_gd (by rw [e2]; exact inb_nn (by omega) (by decide)) (So_gd (by rw [e1]; exact inb_nn (by omega) (by decide)) (So_nm (So_nm (hr _ ?_)))))
    rw [e1, e2, nn_ix (by omega), nn_ix (by omega)]
    refine ⟨hE.tr (Eo_sI rfl), fun j hj => ?_, fun k hk => ?_⟩
    · rw [mI_sI]
      by_cases hjn : j = n
      · subst hjn
        rw [if_pos ⟨rfl, rfl⟩, (hE (u + 5) (by omega)).1]
      · rw [if_neg (by omega)]; exact h1 j (by omega)
    · rw [mI_sI, if_neg (by omega)]; exact h2 k hk
/-- what the reference remembers: snapshots 0 .. n - 1, and of what sort each is -/
theorem remember_so {u n : Nat} {M : Mem} {s : Int32} (hn : n ≤ 16) (hN : mI M u 8 = Int32.ofNat n) : So (FX12_remember u s M) (fun N => Eo (fun q => q = u + 5 ∨ q = u + 6 ∨ q = u) M N ∧ (∀ k, k ≠ 8 → mI N u k = mI M u k) ∧ mJ N u = mJ M u ∧ mR N u = mR M u ∧ mI N u 8 = Int32.ofNat ((if n = 16 then 15 else n) + 1) ∧
    (∀ j, j < 122 → mI N (u + 5) (122 * (if n = 16 then 15 else n) + j) = mI M (u + 2) (8 + j)) ∧ mI N (u + 6) (if n = 16 then 15 else n) = s ∧
    (∀ i j, i < (if n = 16 then 15 else n) → j < 122 → mI N (u + 5) (122 * i + j) = mI M (u + 5) (122 * (if n = 16 then i + 1 else i) + j)) ∧ (∀ i, i < (if n = 16 then 15 else n) → mI N (u + 6) i = mI M (u + 6) (if n = 16 then i + 1 else i)) ∧ (∀ k, 1952 ≤ k → mI N (u + 5) k = mI M (u + 5) k)) := by
  -- the tail: one more behind n', the memory being N0
  have tail : ∀ (N0 : Mem) (n' : Nat), n' ≤ 15 → mI N0 u 8 = Int32.ofNat n' → So ((FX12_keepAll u (mI N0 u 8) N0).bind fun M4 => gd (inb (mI M4 u 8) 16) <| nm (sI M4 (u + 6) (ix (mI M4 u 8)) s) fun M6 => nm (sI M6 u 8 ((mI M6 u 8) + 1)) fun M8 => some M8) (fun N => Eo (fun q => q = u + 5 ∨ q = u + 6 ∨ q = u) N0 N ∧ (∀ k, k ≠ 8 → mI N u k = mI N0 u k) ∧ mJ N u = mJ N0 u ∧ mR N u = mR N0 u ∧ mI N u 8 = Int32.ofNat (n' + 1) ∧ (∀ j, j < 122 → mI N (u + 5) (122 * n' + j) = mI N0 (u + 2) (8 + j)) ∧ mI N (u + 6) n' = s ∧ (∀ k, (k < 122 * n' ∨ 122 * n' + 122 ≤ k) → mI N (u + 5) k = mI N0 (u + 5) k) ∧ ∀ i, i ≠ n' → mI N (u + 6) i = mI N0 (u + 6) i) := by
    intro N0 n' hn' h8
    rw [h8]
    refine So.bind (keepAll_so (by omega)) (fun M4 hM4 => ?_)
    obtain ⟨hE, k1, k2⟩ := hM4
    have h84 : mI M4 u 8 = Int32.ofNat n' := by rw [(hE u (by omega)).1]; exact h8
    rw [h84]
    refine So_gd (inb_nn (by omega) (by decide)) (So_nm (So_nm (So.ok ?_)))
    rw [nn_ix (by omega)]
    have e8 : mI (sI M4 (u + 6) n' s) u 8 = Int32.ofNat n' := by rw [mI_sI, if_neg (by omega)]; exact h84
    rw [e8, s1]
    refine ⟨((hE.up (Q := fun q => q = u + 5 ∨ q = u + 6 ∨ q = u) (fun a h => Or.inl h)).tr (Eo_sI (Or.inr (Or.inl rfl)))).tr (Eo_sI (Or.inr (Or.inr rfl))), fun k hk => ?_, ?_, ?_, ?_, fun j hj => ?_, ?_, fun k hk => ?_, fun i hi => ?_⟩
    · rw [mI_sI, if_neg (fun z => hk z.2), mI_sI, if_neg (by omega), (hE u (by omega)).1]
    · exact (hE u (by omega)).2.1
    · exact (hE u (by omega)).2.2.1
    · rw [mI_sI, if_pos ⟨rfl, rfl⟩]
    · rw [mI_sI, if_neg (by omega), mI_sI, if_neg (by omega)]; exact k1 j hj
    · rw [mI_sI, if_neg (by omega), mI_sI, if_pos ⟨rfl, rfl⟩]
    · rw [mI_sI, if_neg (by omega), mI_sI, if_neg (by omega)]; exact k2 k hk
    · rw [mI_sI, if_neg (by omega), mI_sI, if_neg (fun z => hi z.2), (hE (u + 6) (by omega)).1]
  unfold FX12_remember
  refine So_jn1 ?_
  refine So.ite (fun h => ?_) (fun h => ?_)
  · have hn2 : n ≠ 16 := fun e => h (by rw [hN, e]; rfl)
    rw [if_neg hn2]
    refine (tail M n (by omega) hN).mono (fun N hN2 => ?_)
    obtain ⟨a1, a2, a3, a4, a5, a6, a7, a8, a9⟩ := hN2
    refine ⟨a1, a2, a3, a4, a5, a6, a7, fun i j hi hj => ?_, fun i hi => ?_, fun k hk => a8 k (by omega)⟩
    · rw [if_neg hn2]; exact a8 _ (by omega)
    · rw [if_neg hn2]; exact a9 i (by omega)
  · have hn2 : n = 16 := by
      have h := Classical.not_not.mp h
      rw [hN, show (16 : Int32) = Int32.ofNat 16 from rfl, nn_eq (by omega) (by omega)] at h
      exact h
    subst hn2
    rw [if_pos rfl]
    refine loop_for 1830 (by decide) (fun i N => Eo (fun q => q = u + 5) M N ∧ (∀ k, k < i → mI N (u + 5) k = mI M (u + 5) (k + 122)) ∧ ∀ k, i ≤ k → mI N (u + 5) k = mI M (u + 5) k) M ⟨Eo.rf, fun k hk => absurd hk (by omega), fun k _ => rfl⟩ (fun N rec hI => ?_) (fun i N rec hi hI hr => ?_)
    · obtain ⟨hE, s0, s2⟩ := hI
      refine So.ite (fun _ => ?_) (fun h => absurd h (ge_self 1830))
      refine loop_for 15 (by decide) (fun i K => Eo (fun q => q = u + 6) N K ∧ (∀ k, k < i → mI K (u + 6) k = mI M (u + 6) (k + 1)) ∧ ∀ k, i ≤ k → mI K (u + 6) k = mI M (u + 6) k) N ⟨Eo.rf, fun k hk => absurd hk (by omega), fun k _ => by rw [(hE (u + 6) (by omega)).1]⟩ (fun K rec2 hK => ?_) (fun i K rec2 hi hK hr2 => ?_)
      · obtain ⟨hE2, q0, q2⟩ := hK
        refine So.ite (fun _ => So_nm ?_) (fun h => absurd h (ge_self 15))
        have hEu : Ea M K u := (hE u (by omega)).tr (hE2 u (by omega))
        have h8 : mI K u 8 = Int32.ofNat 16 := by rw [hEu.1]; exact hN
        have h15 : mI K u 8 - 1 = Int32.ofNat 15 := by rw [h8]; rfl
        rw [h15]
        refine (tail (sI K u 8 (Int32.ofNat 15)) 15 (by omega) (by rw [mI_sI, if_pos ⟨rfl, rfl⟩])).mono (fun Z hZ => ?_)
        obtain ⟨a1, a2, a3, a4, a5, a6, a7, a8, a9⟩ := hZ
        refine ⟨(((hE.up (Q := fun q => q = u + 5 ∨ q = u + 6 ∨ q = u) (fun a h => Or.inl h)).tr (hE2.up (fun a h => Or.inr (Or.inl h)))).tr (Eo_sI (Or.inr (Or.inr rfl)))).tr a1, fun k hk => ?_, ?_, ?_, a5, fun j hj => ?_, a7, fun i j hi hj => ?_, fun i hi => ?_, fun k hk => ?_⟩
        · rw [a2 k hk, mI_sI, if_neg (fun z => hk z.2), hEu.1]
        · rw [a3]; exact hEu.2.1
        · rw [a4]; exact hEu.2.2.1
        · rw [a6 j hj, mI_sI, if_neg (by omega), (hE2 (u + 2) (by omega)).1, (hE (u + 2) (by omega)).1]
        · rw [if_pos rfl, a8 _ (by omega), mI_sI, if_neg (by omega), (hE2 (u + 5) (by omega)).1, s0 _ (by omega)]
          congr 1
          omega
        · rw [if_pos rfl, a9 i (by omega), mI_sI, if_neg (by omega), q0 i (by omega)]
        · rw [a8 k (by omega), mI_sI, if_neg (by omega), (hE2 (u + 5) (by omega)).1, s2 k (by omega)]
      · obtain ⟨hE2, q0, q2⟩ := hK
        refine So.ite (fun h => absurd h (nle hi (by decide))) (fun _ => So_gd ?_ (So_gd (inb_nn (by omega) (by decide)) (So_nm (So_nm (hr2 _ ?_)))))
        · rw [s1]; exact inb_nn (by omega) (by decide)
        · rw [s1, nn_ix (by omega), nn_ix (by omega)]
          refine ⟨hE2.tr (Eo_sI rfl), fun k hk => ?_, fun k hk => ?_⟩
          · rw [mI_sI]
            by_cases hki : k = i
            · subst hki; rw [if_pos ⟨rfl, rfl⟩, q2 _ (by omega)]
            · rw [if_neg (fun z => hki z.2)]; exact q0 k (by omega)
          · rw [mI_sI, if_neg (by omega)]; exact q2 k (by omega)
    · obtain ⟨hE, s0, s2⟩ := hI
      have e1 : Int32.ofNat i + 122 = Int32.ofNat (i + 122) := nn_add i 122
      refine So.ite (fun h => absurd h (nle hi (by decide))) (fun _ => So_gd ?_ (So_gd (inb_nn (by omega) (by decide)) (So_nm (So_nm (hr _ ?_)))))
      · rw [e1]; exact inb_nn (by omega) (by decide)
      · rw [e1, nn_ix (by omega), nn_ix (by omega)]
        refine ⟨hE.tr (Eo_sI rfl), fun k hk => ?_, fun k hk => ?_⟩
        · rw [mI_sI]
          by_cases hki : k = i
          · subst hki; rw [if_pos ⟨rfl, rfl⟩, s2 _ (by omega)]
          · rw [if_neg (fun z => hki z.2)]; exact s0 k (by omega)
        · rw [mI_sI, if_neg (by omega)]; exact s2 k (by omega)
