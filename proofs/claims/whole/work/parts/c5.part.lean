/-! ===== the class counts four and a starter ===== -/
theorem takeRanks_c {b w pl Y : Nat} {V : Nat → Nat} {C : Nat → Nat → Nat → Nat} {f : Nat → Nat} {A : Mem} (hd : b + 6 ≤ w ∨ w + 12 ≤ b) (hW : WV A w V Y C) (hp : pl < 2) (hC : Crd A b w pl f) : So (FX2_takeRanks b A) (fun N => Eo (fun q => q = b + 2 ∨ q = b + 3 ∨ q = b + 4) A N ∧ (∀ r, r < 13 → mI N (b + 3) r = Int32.ofNat (prs (C pl 2) (fun k => f k / 4) 4 + cnk (fun k => f k / 4) 4 r * C pl 2 r)) ∧ ∀ r, r < 13 → mI N (b + 4) r = Int32.ofNat (rsn (C pl 3) (fun i => cnk (fun k => f k / 4) 4 i + if i = r then 1 else 0) 14)) := by
  unfold FX2_takeRanks
  refine So.bind (fill_c (by decide)) (fun M2 h2 => ?_)
  obtain ⟨e2, f2⟩ := h2
  have g13 : ∀ k, k < 4 → f k / 4 < 13 := fun k hk => by have := (hC.2.2 k hk).1; omega
  refine loop_for 4 (by decide) (fun k N => Eo (fun q => q = b + 2 ∨ q = b + 3 ∨ q = b + 4) A N ∧ ∀ r, r < 13 → mI N (b + 2) r = Int32.ofNat (cnk (fun k => f k / 4) k r)) M2 ⟨e2.up (fun q hq => Or.inl hq), fun r hr => by rw [f2 r hr]; rfl⟩ (fun N4 rec4 hN4 => ?_) (fun k N rec hk hN hr => ?_)
  rotate_left
  · obtain ⟨n1, n2⟩ := hN
    have hCN : Crd N b w pl f := hC.keep (by rw [(n1 b (by omega)).2.2.1]) (by rw [(n1 b (by omega)).1]) (n1 (b + 1) (by omega)).1
    have fk := (hC.2.2 k hk).1
    refine So.ite (fun z => absurd z (nle hk (by decide))) (fun _ => ?_)
    rw [nn_ix (by omega), (hCN.2.2 k hk).2, show Int32.ofNat (f k) / 4 = Int32.ofNat (f k / 4) from nn_div (b := 4) (by omega) (by decide), nn_ix (by omega)]
    refine So_gd (inb_nn hk (by decide)) (So_gd (inb_nn (g13 k hk) (by decide)) (So_gd (inb_nn (g13 k hk) (by decide)) (So_nm (So_nm (hr _ ⟨n1.tr (Eo_sI (Or.inl rfl)), fun r hr => ?_⟩)))))
    rw [cnk_s]
    by_cases z : r = f k / 4
    · subst z
      rw [mI_e, n2 _ hr, if_pos rfl]; exact nn_add _ 1
    · rw [mI_n2 z, n2 r hr, if_neg (fun q => z q.symm), Nat.add_zero]
  refine So.ite (fun _ => ?_) (fun z => absurd z (ge_self 4))
  obtain ⟨n1, n2⟩ := hN4
  have cle : ∀ r, cnk (fun k => f k / 4) 4 r ≤ 4 := fun r => cnk_le
  have kW : ∀ N, Eo (fun q => q = b + 2 ∨ q = b + 3 ∨ q = b + 4) A N → WV N w V Y C := fun N hN => hW.keep (fun q a c => hN q (by omega))
  have kC : ∀ N, Eo (fun q => q = b + 2 ∨ q = b + 3 ∨ q = b + 4) A N → mR N b 5 = some w ∧ mI N b 6 = Int32.ofNat pl := fun N hN => by
    rw [(hN b (by omega)).2.2.1, (hN b (by omega)).1]; exact ⟨hC.1, hC.2.1⟩
  refine So_wl2 (fun v7 v8 => ∃ r, r ≤ 13 ∧ v8 = Int32.ofNat r ∧ v7 = Int32.ofNat (sm (fun r => cnk (fun k => f k / 4) 4 r * (cnk (fun k => f k / 4) 4 r - 1) / 2 * C pl 2 r) r)) (fun _ v8 => 13 - ix v8) ?_ fuel 0 0 ⟨0, by omega, rfl, rfl⟩ (by unfold fuel; omega)
  rintro v7 v8 rec ⟨r, r13, rfl, rfl⟩ hr
  by_cases z : r = 13
  rotate_left
  · rw [if_neg (show ¬ (13 : Int32) ≤ Int32.ofNat r from nle (n := 13) (by omega) (by decide)), nn_ix (by omega), (kC _ n1).1, (kC _ n1).2, n2 r (by omega), ch_tab _ (cle r)]
    refine So_gd (inb_nn (by omega) (by decide)) (So_gd (inb_nn (by omega) (by decide)) (So_nm (So.bindE rfl (So.bindE ((kW _ n1).cnt (kind := 2) (by decide) (by omega) (Nat.zero_le _) (show r < 13 by omega) (by omega)) (So_nm (So_nm ?_))))))
    rw [nn_mul, nn_add, s1]
    exact hr _ _ ⟨r + 1, by omega, rfl, rfl⟩ (by rw [nn_ix (by omega), nn_ix (by omega)]; omega)
  subst z
  rw [if_pos (show (13 : Int32) ≤ Int32.ofNat 13 by decide), ← prs_ch g13]
  clear hr r13
  refine loop_for 13 (by decide) (fun i N => Eo (fun q => q = b + 2 ∨ q = b + 3 ∨ q = b + 4) A N ∧ (∀ r, r < 13 → mI N (b + 2) r = Int32.ofNat (cnk (fun k => f k / 4) 4 r)) ∧ (∀ r, r < i → mI N (b + 3) r = Int32.ofNat (prs (C pl 2) (fun k => f k / 4) 4 + cnk (fun k => f k / 4) 4 r * C pl 2 r)) ∧ ∀ r, r < i → mI N (b + 4) r = Int32.ofNat (rsn (C pl 3) (fun i => cnk (fun k => f k / 4) 4 i + if i = r then 1 else 0) 14)) N4 ⟨n1, n2, fun r hr => absurd hr (by omega), fun r hr => absurd hr (by omega)⟩ (fun N5 rec5 hN5 => ?_) (fun i N rec hi hN hr => ?_)
  · exact So.ite (fun _ => So.ok ⟨hN5.1, hN5.2.2.1, hN5.2.2.2⟩) (fun z => absurd z (ge_self 13))
  · obtain ⟨m1, m2, m3, m4⟩ := hN
    refine So.ite (fun z => absurd z (nle hi (by decide))) (fun _ => ?_)
    rw [nn_ix (by omega), (kC _ m1).1, (kC _ m1).2, m2 i hi]
    refine So_gd (inb_nn hi (by decide)) (So_nm (So.bindE rfl (So.bindE ((kW _ m1).cnt (kind := 2) (by decide) (by omega) (Nat.zero_le _) (show i < 13 by omega) (by omega)) (So_gd (inb_nn hi (by decide)) (So_nm (So_gd (inb_nn hi (by decide)) (So_gd (inb_nn hi (by decide)) (So_nm ?_))))))))
    rw [nn_mul, nn_add, mI_n1 (b := b + 2) (by omega), m2 i hi, s1]
    generalize hK : sI (sI N (b + 3) i (Int32.ofNat (prs (C pl 2) (fun k => f k / 4) 4 + cnk (fun k => f k / 4) 4 i * C pl 2 i))) (b + 2) i (Int32.ofNat (cnk (fun k => f k / 4) 4 i + 1)) = K
    have k1 : Eo (fun q => q = b + 2 ∨ q = b + 3 ∨ q = b + 4) A K := by rw [← hK]; exact (m1.tr (Eo_sI (Or.inr (Or.inl rfl)))).tr (Eo_sI (Or.inl rfl))
    have k2 : ∀ r, r < 13 → mI K (b + 2) r = Int32.ofNat (cnk (fun k => f k / 4) 4 r + if r = i then 1 else 0) := fun r hr => by
      rw [← hK]
      by_cases y : r = i
      · subst y; rw [mI_e, if_pos rfl]
      · rw [mI_n2 y, mI_n1 (by omega), m2 r hr, if_neg y, Nat.add_zero]
    rw [(kC _ k1).1, (kC _ k1).2]
    have c13 : cnk (fun k => f k / 4) 4 13 = 0 := sm_0 (fun k hk => if_neg (fun q => by have := g13 k hk; have q : f k / 4 = 13 := q; omega))
    refine So_nm (So.bindE rfl (So.bindE (runs_c (kW _ k1) hp k2 (by show cnk (fun k => f k / 4) 4 13 + (if 13 = i then 1 else 0) = 0; rw [c13, if_neg (by omega)]) (fun j => e1_sum j) (fun r => by have := cle r; show cnk (fun k => f k / 4) 4 r + (if r = i then 1 else 0) ≤ 5; split <;> omega)) ?_))
    refine So_gd (inb_nn hi (by decide)) (So_nm (So_gd (inb_nn hi (by decide)) (So_gd (inb_nn hi (by decide)) (So_nm (So_nm (hr _ ⟨(k1.tr (Eo_sI (Or.inr (Or.inr rfl)))).tr (Eo_sI (Or.inl rfl)), fun r hr => ?_, fun r hr => ?_, fun r hr => ?_⟩))))))
    · by_cases y : r = i
      · rw [y, mI_e, mI_n1 (by omega), k2 i hi, if_pos rfl]; exact nn_sub (b := 1) (by omega) (by have := cle i; omega)
      · rw [mI_n2 y, mI_n1 (by omega), k2 r hr, if_neg y, Nat.add_zero]
    · rw [mI_n1 (by omega), mI_n1 (by omega), ← hK, mI_n1 (by omega)]
      by_cases y : r = i
      · subst y; rw [mI_e]
      · rw [mI_n2 y]; exact m3 r (by omega)
    · rw [mI_n1 (by omega)]
      by_cases y : r = i
      · subst y; rw [mI_e]
      · rw [mI_n2 y, ← hK, mI_n1 (by omega), mI_n1 (by omega)]; exact m4 r (by omega)
