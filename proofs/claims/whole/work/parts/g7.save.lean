/-! ===== what can be undone is put aside, and taken back ===== -/
theorem HR2.keepB {A A' B B' : Mem} {h u : Nat} (x : HR2 A B h u) (e : ∀ q, h ≤ q → q < h + 67 → Ea A A' q) (e5 : ∀ k, k < 1952 → mI B' (u + 5) k = mI B (u + 5) k) (e6 : ∀ k, k < 16 → mI B' (u + 6) k = mI B (u + 6) k) (e8 : mI B' u 8 = mI B u 8) : HR2 A' B' h u := by
  have y := x.keep (A' := A') (B' := B) e rfl rfl rfl
  obtain ⟨f, n, h1, h2, h3, h4, h5, h6⟩ := y
  refine ⟨f, n, h1, h2, h3, h4, by rw [e8]; exact h5, fun i hi => ?_⟩
  obtain ⟨a1, a2, a3, a4⟩ := h6 i hi
  have es : ∀ k, 8 ≤ k → k < 130 → snap B' u i k = snap B u i k := fun k a b => by unfold snap; rw [e5 _ (by omega)]
  rw [e6 i (by omega)]
  exact ⟨a1.row es, a2.row es, a3, a4⟩
theorem hcopy_so {h h' u : Nat} {A B : Mem} (d : h + 67 ≤ h' ∨ h' + 67 ≤ h) (x : HR2 A B h u) : So (FX4_copyFrom h' h A) (fun N => HR2 N B h' u ∧ Eo (fun q => h' ≤ q ∧ q < h' + 67) A N) := by
  obtain ⟨f, n, hf, hn, h2, h3, h8, hs⟩ := x
  unfold FX4_copyFrom
  refine So_nm (So_nm ?_)
  have e3 : mI (sI A h' 2 (mI A h 2)) h 3 = Int32.ofNat n := by rw [mI_n1 (by omega)]; exact h3
  rw [e3, h2]
  generalize hA2 : sI (sI A h' 2 (Int32.ofNat f)) h' 3 (Int32.ofNat n) = A2
  have E2 : Eo (fun q => h' ≤ q ∧ q < h' + 67) A A2 := by rw [← hA2]; exact (Eo_sI (by omega)).tr (Eo_sI (by omega))
  have a2 : mI A2 h' 2 = Int32.ofNat f := by rw [← hA2, mI_n2 (by decide), mI_e]
  have a3 : mI A2 h' 3 = Int32.ofNat n := by rw [← hA2, mI_e]
  refine loop_for n (by omega) (fun i N => Eo (fun q => h' ≤ q ∧ q < h' + 67) A N ∧ mI N h' 2 = Int32.ofNat f ∧ mI N h' 3 = Int32.ofNat n ∧ ∀ j, j < i → TR N (hT h' ((f + j) % 16)) (snap B u j) ∧ mI N (h' + 2) ((f + j) % 16) = mI B (u + 6) j) A2 ⟨E2, a2, a3, fun j hj => absurd hj (by omega)⟩ (fun N rec hN => ?_) (fun i N rec hi hN hr => ?_)
  · obtain ⟨n1, n2, n3, n4⟩ := hN
    rw [n3]
    refine So.ite (fun _ => So.ok ⟨⟨f, n, hf, hn, n2, n3, h8, fun i hi => ?_⟩, n1⟩) (fun z => absurd z (ge_self n))
    obtain ⟨x1, x2, x3, x4⟩ := hs i hi
    exact ⟨(n4 i hi).1, x2, (n4 i hi).2, x4⟩
  · obtain ⟨n1, n2, n3, n4⟩ := hN
    rw [n3, n2]
    refine So.ite (fun z => absurd z (nle hi (by omega))) (fun _ => So_nm ?_)
    have hv : irm (Int32.ofNat f + Int32.ofNat i) 16 = Int32.ofNat ((f + i) % 16) := by
      rw [nn_add]; exact nn_rem (b := 16) (by omega) (by omega)
    have hlt : (f + i) % 16 < 16 := Nat.mod_lt _ (by decide)
    obtain ⟨x1, x2, x3, x4⟩ := hs i hi
    rw [hv, nn_ix (by omega)]
    have lo : ∀ q, h ≤ q → q < h + 67 → Ea A N q := fun q a b => n1 q (by omega)
    refine So_gd (inb_nn hlt (by decide)) (So_gd (inb_nn hlt (by decide)) ?_)
    rw [show (h' + 1) + 2 + 4 * ((f + i) % 16) = hT h' ((f + i) % 16) by unfold hT; omega, show (h + 1) + 2 + 4 * ((f + i) % 16) = hT h ((f + i) % 16) by unfold hT; omega]
    refine So.bind (copyT (r := snap B u i) (by unfold hT; omega) (x1.keep (lo _ (by unfold hT; omega) (by unfold hT; omega)) (lo _ (by unfold hT; omega) (by unfold hT; omega)) (lo _ (by unfold hT; omega) (by unfold hT; omega)) (lo _ (by unfold hT; omega) (by unfold hT; omega)))) (fun K hK => ?_)
    obtain ⟨k1, k2⟩ := hK
    refine So_gd (inb_nn hlt (by decide)) (So_gd (inb_nn hlt (by decide)) (So_nm (So_nm (hr _ ⟨?_, ?_, ?_, fun j hj => ?_⟩))))
    · exact (n1.tr (k2.up (fun q hq => by unfold hT at hq; omega))).tr (Eo_sI (by omega))
    · rw [mI_n1 (by omega), (k2 h' (by unfold hT; omega)).1]; exact n2
    · rw [mI_n1 (by omega), (k2 h' (by unfold hT; omega)).1]; exact n3
    · have kh : mI K (h + 2) ((f + i) % 16) = mI B (u + 6) i := by
        rw [(k2 (h + 2) (by unfold hT; omega)).1, (lo (h + 2) (by omega) (by omega)).1]; exact x3
      rw [kh]
      by_cases z : j = i
      · subst z
        exact ⟨k1.keep (Ea_sI (by unfold hT; omega)) (Ea_sI (by unfold hT; omega)) (Ea_sI (by unfold hT; omega)) (Ea_sI (by unfold hT; omega)), mI_e⟩
      · obtain ⟨y1, y2⟩ := n4 j (by omega)
        have hne : (f + j) % 16 ≠ (f + i) % 16 := by omega
        have hj16 : (f + j) % 16 < 16 := Nat.mod_lt _ (by decide)
        have ea : ∀ c, c < 4 → Ea N (sI K (h' + 2) ((f + i) % 16) (mI B (u + 6) i)) (hT h' ((f + j) % 16) + c) := fun c hc => (k2 _ (by unfold hT; omega)).tr (Ea_sI (by unfold hT; omega))
        refine ⟨y1.keep (ea 0 (by decide)) (ea 1 (by decide)) (ea 2 (by decide)) (ea 3 (by decide)), ?_⟩
        rw [mI_n2 hne, (k2 (h' + 2) (by unfold hT; omega)).1]; exact y2
/-- the reference puts aside -/
theorem saveL {τ : Type} {Q : τ → Prop} {u : Nat} {M : Mem} {k : Mem → Option τ} (h : ∀ N, Eo (fun q => q = u + 7 ∨ q = u + 8) M N → (∀ j, j < 1952 → mI N (u + 7) j = mI M (u + 5) j) → (∀ j, j < 16 → mI N (u + 8) j = mI M (u + 6) j) → So (k N) Q) : So (wl2 (fun (v13 : Int32) (M14 : Mem) rec15 => if 1952 ≤ v13 then wl2 (fun (v17 : Int32) (M18 : Mem) rec19 => if 16 ≤ v17 then k M18 else gd (inb v17 16) <| gd (inb v17 16) <| nm (sI M18 (u + 8) (ix v17) (mI M18 (u + 6) (ix v17))) fun M46 => nm (v17 + 1) fun v48 => rec19 v48 M46) fuel 0 M14 else gd (inb v13 2196) <| gd (inb v13 1952) <| nm (sI M14 (u + 7) (ix v13) (mI M14 (u + 5) (ix v13))) fun M52 => nm (v13 + 1) fun v54 => rec15 v54 M52) fuel 0 M) Q := by
  refine loop_for 1952 (by decide) (fun i N => Eo (fun q => q = u + 7) M N ∧ ∀ j, j < i → mI N (u + 7) j = mI M (u + 5) j) M ⟨Eo.rf, fun j hj => absurd hj (by omega)⟩ (fun N rec hN => ?_) (fun i N rec hi hN hr => ?_)
  · obtain ⟨n1, n2⟩ := hN
    refine So.ite (fun _ => ?_) (fun z => absurd z (ge_self 1952))
    refine loop_for 16 (by decide) (fun i K => Eo (fun q => q = u + 8) N K ∧ ∀ j, j < i → mI K (u + 8) j = mI M (u + 6) j) N ⟨Eo.rf, fun j hj => absurd hj (by omega)⟩ (fun K rec2 hK => ?_) (fun i K rec2 hi hK hr2 => ?_)
    · obtain ⟨k1, k2⟩ := hK
      exact So.ite (fun _ => h K ((n1.up (fun q hq => Or.inl hq)).tr (k1.up (fun q hq => Or.inr hq))) (fun j hj => by rw [(k1 (u + 7) (by omega)).1]; exact n2 j hj) k2) (fun z => absurd z (ge_self 16))
    · obtain ⟨k1, k2⟩ := hK
      refine So.ite (fun z => absurd z (nle hi (by decide))) (fun _ => So_gd (inb_nn hi (by decide)) (So_gd (inb_nn hi (by decide)) (So_nm (So_nm (hr2 _ ⟨k1.tr (Eo_sI rfl), fun j hj => ?_⟩)))))
      rw [nn_ix (by omega), (k1 (u + 6) (by omega)).1, (n1 (u + 6) (by omega)).1]
      by_cases z : j = i
      · rw [z, mI_e]
      · rw [mI_n2 z]; exact k2 j (by omega)
  · obtain ⟨n1, n2⟩ := hN
    refine So.ite (fun z => absurd z (nle hi (by decide))) (fun _ => So_gd (inb_nn (by omega) (by decide)) (So_gd (inb_nn hi (by decide)) (So_nm (So_nm (hr _ ⟨n1.tr (Eo_sI rfl), fun j hj => ?_⟩)))))
    rw [nn_ix (by omega), (n1 (u + 5) (by omega)).1]
    by_cases z : j = i
    · rw [z, mI_e]
    · rw [mI_n2 z]; exact n2 j (by omega)
theorem giveBack_so {u : Nat} {v : Int32} {M : Mem} : So (FX12_giveBack u v M) (fun N => Eo (fun q => q = u ∨ q = u + 2 ∨ q = u + 5 ∨ q = u + 6) M N ∧ (∀ k, k ≠ 8 → mI N u k = mI M u k) ∧ mI N u 8 = v ∧ (∀ j, j < 122 → mI N (u + 2) (8 + j) = mI M (u + 5) (122 * 17 + j)) ∧ (∀ k, (k < 8 ∨ 130 ≤ k) → mI N (u + 2) k = mI M (u + 2) k) ∧ (∀ j, j < 1952 → mI N (u + 5) j = mI M (u + 7) j) ∧ (∀ j, 1952 ≤ j → mI N (u + 5) j = mI M (u + 5) j) ∧ ∀ j, j < 16 → mI N (u + 6) j = mI M (u + 8) j) := by
  unfold FX12_giveBack
  refine So.bind (show So (FX12_putBack u 17 M) _ from putBack_so (i := 17) (by decide)) (fun M1 h1 => ?_)
  obtain ⟨p1, p2, p3⟩ := h1
  refine loop_for 1952 (by decide) (fun i N => Eo (fun q => q = u + 5) M1 N ∧ (∀ j, j < i → mI N (u + 5) j = mI M (u + 7) j) ∧ ∀ j, i ≤ j → mI N (u + 5) j = mI M (u + 5) j) M1 ⟨Eo.rf, fun j hj => absurd hj (by omega), fun j _ => by rw [(p1 (u + 5) (by omega)).1]⟩ (fun N rec hN => ?_) (fun i N rec hi hN hr => ?_)
  · obtain ⟨n1, n2, n3⟩ := hN
    refine So.ite (fun _ => ?_) (fun z => absurd z (ge_self 1952))
    refine loop_for 16 (by decide) (fun i K => Eo (fun q => q = u + 6) N K ∧ ∀ j, j < i → mI K (u + 6) j = mI M (u + 8) j) N ⟨Eo.rf, fun j hj => absurd hj (by omega)⟩ (fun K rec2 hK => ?_) (fun i K rec2 hi hK hr2 => ?_)
    · obtain ⟨k1, k2⟩ := hK
      have kk : ∀ q, q ≠ u + 2 → q ≠ u + 5 → q ≠ u + 6 → Ea M K q := fun q a b c => ((p1 q a).tr (n1 q b)).tr (k1 q c)
      refine So.ite (fun _ => So_nm (So.ok ⟨fun q hq => (kk q (by omega) (by omega) (by omega)).tr (Ea_sI (by omega)), fun k hk => by rw [mI_n2 hk, (kk u (by omega) (by omega) (by omega)).1], mI_e, fun j hj => ?_, fun k hk => ?_, fun j hj => ?_, fun j hj => ?_, fun j hj => ?_⟩)) (fun z => absurd z (ge_self 16))
      · rw [mI_n1 (by omega), (k1 (u + 2) (by omega)).1, (n1 (u + 2) (by omega)).1]; exact p2 j hj
      · rw [mI_n1 (by omega), (k1 (u + 2) (by omega)).1, (n1 (u + 2) (by omega)).1]; exact p3 k hk
      · rw [mI_n1 (by omega), (k1 (u + 5) (by omega)).1]; exact n2 j hj
      · rw [mI_n1 (by omega), (k1 (u + 5) (by omega)).1]; exact n3 j hj
      · rw [mI_n1 (by omega)]; exact k2 j hj
    · obtain ⟨k1, k2⟩ := hK
      refine So.ite (fun z => absurd z (nle hi (by decide))) (fun _ => So_gd (inb_nn hi (by decide)) (So_gd (inb_nn hi (by decide)) (So_nm (So_nm (hr2 _ ⟨k1.tr (Eo_sI rfl), fun j hj => ?_⟩)))))
      rw [nn_ix (by omega), (k1 (u + 8) (by omega)).1, (n1 (u + 8) (by omega)).1, (p1 (u + 8) (by omega)).1]
      by_cases z : j = i
      · rw [z, mI_e]
      · rw [mI_n2 z]; exact k2 j (by omega)
  · obtain ⟨n1, n2, n3⟩ := hN
    refine So.ite (fun z => absurd z (nle hi (by decide))) (fun _ => So_gd (inb_nn hi (by decide)) (So_gd (inb_nn (by omega) (by decide)) (So_nm (So_nm (hr _ ⟨n1.tr (Eo_sI rfl), fun j hj => ?_, fun j hj => ?_⟩)))))
    · rw [nn_ix (by omega), (n1 (u + 7) (by omega)).1, (p1 (u + 7) (by omega)).1]
      by_cases z : j = i
      · rw [z, mI_e]
      · rw [mI_n2 z]; exact n2 j (by omega)
    · rw [nn_ix (by omega), mI_n2 (by omega)]; exact n3 j (by omega)
