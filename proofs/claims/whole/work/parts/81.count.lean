/-! ===== count, undo ===== -/
theorem sw_no {τ : Type} {x : Int} {gs : List (Option τ)} {d : Option τ} : ∀ {lo : Int}, (x < lo ∨ lo + gs.length ≤ x) → sw x lo gs d = d := by
  induction gs with
  | nil => intro lo _; rfl
  | cons g gs ih =>
    intro lo h
    unfold sw
    rw [List.length_cons] at h
    rw [if_neg (by omega)]
    exact ih (by omega)
theorem st_count : St_count Inv := by
  rintro t u T M p1 ⟨Λ, h⟩
  have hu := h.1
  obtain ⟨⟨-, -, b3, -, r9, r10, r11, r13, r12, r14, r15, r8, -, -, -⟩, -, ⟨a1, a2, -⟩, ⟨n0, -, s1', s2, -⟩, ⟨n1, -, c1, c2, c3, -, -⟩, d1, d2, d3, -, -, -⟩ := h.2.2.1
  obtain ⟨f, n, -, -, -, hh4, hh5, -⟩ := h.2.2.2.2.1
  obtain ⟨L, -, l1, l2, -⟩ := h.2.2.2.2.2.1
  have m5 := h.2.2.2.2.2.2.1.2.2.2.2.1
  have x1 : mI (sI M u 0 0) (u + 2) = mI M (u + 2) := by funext k; simp (disch := omega) only [mI_n1, mI_n2, mI_e, mJ_n1, mJ_n2, mJ_e, mI_sJ, mI_sR, mJ_sI, mJ_sR, mR_sI, mR_sJ]
  have x0 : mI (sI M u 0 0) (u + 1) = mI M (u + 1) := by funext k; simp (disch := omega) only [mI_n1, mI_n2, mI_e, mJ_n1, mJ_n2, mJ_e, mI_sJ, mI_sR, mJ_sI, mJ_sR, mR_sI, mR_sJ]
  have fin : ∀ {k : Nat} {v : Int32}, FX11_count t (Int32.ofNat k) M = some v → FX12_count u (Int32.ofNat k) M = some (v, sI M u 0 0) → ∃ v M2, FX11_count t (Int32.ofNat k) M = some v ∧ FX12_count u (Int32.ofNat k) M = some (v, M2) ∧ Inv t u T M2 := fun {k v} a b => ⟨v, sI M u 0 0, a, b, Λ, h.u0 0⟩
  by_cases hp : 0 ≤ p1.toInt ∧ p1.toInt < 23
  · obtain ⟨k, hk, rfl⟩ := nn_exi (i := p1) hp.1
    rw [nn_int hk] at hp
    have hk2 : k < 23 := by omega
    clear hp hk
    have go : ∀ j, j < 23 → k = j → ∃ v M2, FX11_count t (Int32.ofNat k) M = some v ∧ FX12_count u (Int32.ofNat k) M = some (v, M2) ∧ Inv t u T M2 := by
      intro j hj e
      subst e
      match k, hj with
      | 0, _ => exact fin (v := mI M (u + 2) 9) (by show some (mI M (t + 1 + 1) 5) = _; rw [r9]) (by show some (mI (sI M u 0 0) (u + 2) 9, _) = _; rw [x1])
      | 1, _ => exact fin (v := mI M (u + 2) 10) (by show some (mI M (t + 1 + 1) 6) = _; rw [r10]) (by show some (mI (sI M u 0 0) (u + 2) 10, _) = _; rw [x1])
      | 2, _ => exact fin (v := mI M (u + 2) 11) (by show some (mI M (t + 1 + 1) 7) = _; rw [r11]) (by show some (mI (sI M u 0 0) (u + 2) 11, _) = _; rw [x1])
      | 3, _ => exact fin (v := Int32.ofNat (cs (fun c => decide (mI M (u + 2) (18 + c) = 2))).length) (by show (FJ_Long_bitCount (mJ M (t + 1 + 1) 3)).bind _ = _; rw [ob b3.count]) (by show (FX12_cardsAt u 2 (sI M u 0 0)).bind _ = _; rw [ob (cardsAt_eq _ _ _), x1])
      | 4, _ => exact fin (v := mI M (u + 2) 12) (by show some (mI M (t + 1 + 1) 9) = _; rw [r12]) (by show some (mI (sI M u 0 0) (u + 2) 12, _) = _; rw [x1])
      | 5, _ => exact fin (v := mI M (u + 2) 13) (by show some (mI M (t + 1 + 1) 8) = _; rw [r13]) (by show some (mI (sI M u 0 0) (u + 2) 13, _) = _; rw [x1])
      | 6, _ => exact fin (v := mI M (u + 2) 14) (by show some (mI M (t + 1 + 1) 10) = _; rw [r14]) (by show some (mI (sI M u 0 0) (u + 2) 14, _) = _; rw [x1])
      | 7, _ => exact fin (v := mI M (u + 2) 15) (by show some (mI M (t + 1 + 1) 11) = _; rw [r15]) (by show some (mI (sI M u 0 0) (u + 2) 15, _) = _; rw [x1])
      | 8, _ => exact fin (v := Int32.ofNat (cs (fun c => decide (mI M (u + 2) (130 + c) = 1))).length) (by show (FJ_Long_bitCount (mJ M (t + 1) 5)).bind _ = _; rw [ob a1.count]) (by show (FX12_heldOnes u (sI M u 0 0)).bind (fun r16 => some (r16, sI M u 0 0)) = _; rw [ob (heldOnes_eq _ _ (fun c hc => by rw [x1]; exact a2 c hc)), x1])
      | 9, _ => exact fin (v := Int32.ofNat n0) (by show some (mI M (t + 1) 6) = _; rw [s1']) (by show some (mI (sI M u 0 0) (u + 2) 0, _) = _; rw [x1, s2])
      | 10, _ => exact fin (v := Int32.ofNat n1) (by show some (mI M (t + 1) 7) = _; rw [c1]) (by show some (mI (sI M u 0 0) (u + 2) 1, _) = _; rw [x1, c2])
      | 11, _ => exact fin (v := Int32.ofNat n) (by show some (mI M (t + 29) 3) = _; rw [hh4]) (by show some (mI (sI M u 0 0) u 8, _) = _; rw [mI_n2 (by decide), hh5])
      | 12, _ => exact fin (v := Int32.ofNat L) (by show some (mI M (t + 171) 2) = _; rw [l1]) (by show some (mI (sI M u 0 0) u 13, _) = _; rw [mI_n2 (by decide), l2])
      | 13, _ => exact fin (v := mI M (u + 1) 1) (by show some (mI M (t + 275) 0) = _; rw [m5 0 (by decide)]; rfl) (by show some (mI (sI M u 0 0) (u + 1) 1, _) = _; rw [x0])
      | 14, _ => exact fin (v := mI M (u + 1) 2) (by show some (mI M (t + 275) 1) = _; rw [m5 1 (by decide)]; rfl) (by show some (mI (sI M u 0 0) (u + 1) 2, _) = _; rw [x0])
      | 15, _ => exact fin (v := mI M (u + 1) 3) (by show some (mI M (t + 275) 2) = _; rw [m5 2 (by decide)]; rfl) (by show some (mI (sI M u 0 0) (u + 1) 3, _) = _; rw [x0])
      | 16, _ => exact fin (v := mI M (u + 1) 5) (by show some (mI M (t + 275) 3) = _; rw [m5 3 (by decide)]; rfl) (by show some (mI (sI M u 0 0) (u + 1) 5, _) = _; rw [x0])
      | 17, _ => exact fin (v := mI M (u + 1) 6) (by show some (mI M (t + 275) 4) = _; rw [m5 4 (by decide)]; rfl) (by show some (mI (sI M u 0 0) (u + 1) 6, _) = _; rw [x0])
      | 18, _ => exact fin (v := mI M (u + 2) 2) (by show some (mI M (t + 1) 8) = _; rw [c3]) (by show some (mI (sI M u 0 0) (u + 2) 2, _) = _; rw [x1])
      | 19, _ => exact fin (v := mI M (u + 2) 8) (by show some (mI M (t + 1 + 1) 12) = _; rw [r8]) (by show some (mI (sI M u 0 0) (u + 2) 8, _) = _; rw [x1])
      | 20, _ => exact fin (v := mI M (u + 2) 5) (by show some (mI M (t + 1 + 8) 0) = _; rw [d1]) (by show some (mI (sI M u 0 0) (u + 2) 5, _) = _; rw [x1])
      | 21, _ => exact fin (v := mI M (u + 2) 6) (by show some (mI M (t + 1 + 8) 1) = _; rw [d2]) (by show some (mI (sI M u 0 0) (u + 2) 6, _) = _; rw [x1])
      | 22, _ => exact fin (v := mI M (u + 2) 7) (by show some (mI M (t + 1 + 8) 2) = _; rw [d3]) (by show some (mI (sI M u 0 0) (u + 2) 7, _) = _; rw [x1])
      | j + 23, hj => exact absurd hj (by omega)
    exact go k hk2 rfl
  · refine ⟨-1, sI M u 0 0, ?_, ?_, Λ, h.u0 0⟩
    · unfold FX11_count
      exact sw_no (by simp only [List.length_cons, List.length_nil]; omega)
    · unfold FX12_count
      rw [nmb, sw_no (by simp only [List.length_cons, List.length_nil]; omega), ob (in_i p1 20 22), if_neg (show ¬ ((20 : Int64).toInt ≤ p1.toInt ∧ p1.toInt ≤ (22 : Int64).toInt) from fun z => hp (by have z1 : 20 ≤ p1.toInt := z.1; have z2 : p1.toInt ≤ 22 := z.2; omega))]
      rfl
theorem snap_hd {M : Mem} {u i j : Nat} : snap M u i (8 + j) = mI M (u + 5) (122 * i + j) := by
  unfold snap; rw [show 122 * i + (8 + j) - 8 = 122 * i + j by omega]
/-- another table in the State -/
theorem SR.tab {Λ : Lam} {M N : Mem} {lo T b : Nat} {r r' : Nat → Int32} (h : SR Λ M lo T b r) (e : ∀ q, q = b ∨ (b + 5 ≤ q ∧ q < b + 9) → Ea M N q) (eT : ∀ q, lo ≤ q → q < T → Ea M N q) (hr : ∀ k, k < 8 ∨ 130 ≤ k → r' k = r k) (h1 : TR N (b + 1) r') (h2 : TV r') : SR Λ N lo T b r' := by
  obtain ⟨-, -, ⟨a1, a2, a3⟩, ⟨m, s1', s2, s3, s4⟩, ⟨n, c1, c2, c3, c4, c5, c6⟩, d1, d2, d3, d4, d5, d6⟩ := h
  have eb := e b (by omega)
  refine ⟨h1, h2, ⟨?_, fun c hc => by rw [hr _ (by omega)]; exact a2 c hc, ?_⟩, ⟨m, s1', by rw [eb.1]; exact s2, by rw [hr 0 (by omega)]; exact s3, fun k hk => ?_⟩, ⟨n, c1, by rw [eb.1]; exact c2, by rw [hr 1 (by omega)]; exact c3, by rw [eb.1, hr 2 (by omega)]; exact c4, by rw [hr 2 (by omega)]; exact c5, fun i hi => ?_⟩, ?_⟩
  · rw [eb.2.1]; exact a1.congr (fun c hc => by rw [hr (130 + c) (by omega)])
  · have : cs (fun c => decide (r' (130 + c) = 1)) = cs (fun c => decide (r (130 + c) = 1)) := by
      unfold cs
      exact List.filter_congr (fun c _ => by rw [hr (130 + c) (by omega)])
    rw [this]; exact a3
  · rw [hr _ (by omega), hr _ (by omega), (e (b + 5) (by omega)).1, (e (b + 6) (by omega)).1]; exact s4 k hk
  · obtain ⟨a, x1, x2, x3, x4, len, x5⟩ := c6 i hi
    exact ⟨a, by rw [(e (b + 7) (by omega)).2.2.1]; exact x1, x2, x3, x4.keep (eT _ (by omega) (by omega)) (eT _ (by omega) (by omega)) (eT _ (by omega) (by omega)), len, x5.row (fun k p q => hr k (by omega))⟩
  · unfold SRt
    rw [(e (b + 8) (by omega)).1, hr 5 (by omega), hr 6 (by omega), hr 7 (by omega)]
    exact ⟨d1, d2, d3, d4, d5, d6⟩
theorem st_undo : St_undo Inv := by
  rintro t u T M ⟨Λ, h⟩
  have hu := h.1
  have hT' := h.2.1
  obtain ⟨f, n, h1, h2, h3, h4, h5, h6⟩ := h.2.2.2.2.1
  by_cases n0 : n = 0
  · subst n0
    refine st_ref (j := 2) h (by decide) ?_ ?_
    · unfold FX11_undo
      rw [h4, if_neg (by decide)]; rfl
    · unfold FX12_undo
      have x1 : mI (sI (RfM t 2 M) u 0 0) u 8 = Int32.ofNat 0 := by unfold RfM; simp (disch := omega) only [mI_n1, mI_n2, mI_e, mJ_n1, mJ_n2, mJ_e, mI_sJ, mI_sR, mJ_sI, mJ_sR, mR_sI, mR_sJ]; exact h5
      rw [nmb, x1, if_neg (by decide)]; rfl
  · obtain ⟨q1, q2, q3, sk, hsk, q4⟩ := h6 (n - 1) (by omega)
    have nz : ¬ Int32.ofNat n = 0 := fun z => n0 ((nn_eq (b := 0) (by omega) (by omega)).mp z)
    obtain ⟨⟨v, M5⟩, e1, e2, e3, e4, e5, e6⟩ := pop_so (h := t + 29) (p := t + 1 + 1) (M := M) (n := n) (f := f) (by omega) (by omega) h1 h3 h4 q1
    have e2 : v = mI M (t + 29 + 2) ((f + (n - 1)) % 16) := e2
    have e3 : Eo (fun a => a = t + 29 ∨ (t + 1 + 1 ≤ a ∧ a < t + 1 + 1 + 4)) M M5 := e3
    have e4 : TR M5 (t + 1 + 1) (snap M u (n - 1)) := e4
    have e5 : mI M5 (t + 29) 2 = Int32.ofNat f := e5
    have e6 : mI M5 (t + 29) 3 = Int32.ofNat (n - 1) := e6
    have ev : v = Int32.ofNat sk := by rw [e2, q3, q4]
    generalize hM1 : sI M5 t 16 0 = M1
    generalize hR : sI (sI M1 u 0 0) u 8 (Int32.ofNat (n - 1)) = R
    have w8 : mI (sI M1 u 0 0) u 8 = Int32.ofNat n := by rw [← hM1]; simp (disch := omega) only [mI_n1, mI_n2, mI_e, mJ_n1, mJ_n2, mJ_e, mI_sJ, mI_sR, mJ_sI, mJ_sR, mR_sI, mR_sJ]; rw [(e3 u (by omega)).1]; exact h5
    have w9 : mI R u 8 = Int32.ofNat (n - 1) := by rw [← hR, mI_e]
    obtain ⟨N, g1, g2, g3, g4⟩ := putBack_so (u := u) (M := R) (i := n - 1) (by omega)
    have R0 : ∀ q, q ≠ t → q ≠ u → Ea M5 R q := fun q a b => by rw [← hR, ← hM1]; (repeat (first | exact Ea.rf _ _ | refine Ea.tr ?_ (Ea_sI (by omega)) | refine Ea.tr ?_ (Ea_sJ (by omega))))
    have E0 : ∀ q, q ≠ t → q ≠ t + 29 → (q < t + 1 + 1 ∨ t + 1 + 1 + 4 ≤ q) → q ≠ u → q ≠ u + 2 → Ea M N q := fun q a b c d e => ((e3 q (by omega)).tr (R0 q a d)).tr (g2 q e)
    have N8 : mI N u 8 = Int32.ofNat (n - 1) := by rw [(g2 u (by omega)).1, w9]
    refine ⟨Int32.ofNat sk, M1, sI N u 1 0, ?_, ?_, Λ, ?_⟩
    · unfold FX11_undo
      rw [h4, if_pos nz, bo e1, ev, bo (grant_eq _ _ _), hM1]
    · unfold FX12_undo
      rw [nmb, w8, if_pos nz, nmb, show Int32.ofNat n - 1 = Int32.ofNat (n - 1) from nn_sub (b := 1) (by omega) (by omega), hR, w9, ob g1, N8, gp (inb_nn (by omega) (by decide)), nn_ix (by omega), (E0 (u + 6) (by omega) (by omega) (by omega) (by omega) (by omega)).1, q4, bo (tell_pos (by rw [nn_int (by omega)]; omega))]
    · have W0 : ∀ q, q ≠ t → q ≠ t + 29 → (q < t + 1 + 1 ∨ t + 1 + 1 + 4 ≤ q) → q ≠ u → q ≠ u + 2 → Ea M (sI N u 1 0) q := fun q a b c d e => (E0 q a b c d e).tr (Ea_sI d)
      have rw2 : ∀ k, mI (sI N u 1 0) (u + 2) k = mI N (u + 2) k := fun k => mI_n1 (by omega)
      have r58 : mI R (u + 5) = mI M (u + 5) := by rw [(R0 (u + 5) (by omega) (by omega)).1, (e3 (u + 5) (by omega)).1]
      have rS : ∀ k, 8 ≤ k → k < 130 → mI (sI N u 1 0) (u + 2) k = snap M u (n - 1) k := fun k a b => by
        obtain ⟨j, rfl⟩ : ∃ j, k = 8 + j := ⟨k - 8, by omega⟩
        rw [rw2, g3 j (by omega), snap_hd, r58]
      have rO : ∀ k, k < 8 ∨ 130 ≤ k → mI (sI N u 1 0) (u + 2) k = mI M (u + 2) k := fun k hk => by
        rw [rw2, g4 k hk, (R0 (u + 2) (by omega) (by omega)).1, (e3 (u + 2) (by omega)).1]
      have N5 : ∀ q, q ≠ t → q ≠ u → q ≠ u + 2 → Ea M5 (sI N u 1 0) q := fun q a b c => ((R0 q a b).tr (g2 q c)).tr (Ea_sI b)
      have hS : SR Λ (sI N u 1 0) (u + 42) T (t + 1) (mI (sI N u 1 0) (u + 2)) := by
        refine h.2.2.1.tab (fun q hq => W0 q (by omega) (by omega) (by omega) (by omega) (by omega)) (fun q a b => W0 q (by omega) (by omega) (by omega) (by omega) (by omega)) rO ?_ ?_
        · exact (e4.keep (N5 _ (by omega) (by omega) (by omega)) (N5 _ (by omega) (by omega) (by omega)) (N5 _ (by omega) (by omega) (by omega)) (N5 _ (by omega) (by omega) (by omega))).row (fun k a b => rS k a b)
        · exact q2.row (fun k a b => rS k a b)
      have hH : HR (sI N u 1 0) (t + 29) u := by
        refine ⟨f, n - 1, h1, by omega, ?_, ?_, ?_, fun i hi => ?_⟩
        · rw [(N5 (t + 29) (by omega) (by omega) (by omega)).1]; exact e5
        · rw [(N5 (t + 29) (by omega) (by omega) (by omega)).1]; exact e6
        · rw [mI_n2 (by decide)]; exact N8
        · obtain ⟨y1, y2, y3, y4⟩ := h6 i (by omega)
          have hm : (f + i) % 16 < 16 := Nat.mod_lt _ (by decide)
          have hs : snap (sI N u 1 0) u i = snap M u i := by
            unfold snap; rw [(W0 (u + 5) (by omega) (by omega) (by omega) (by omega) (by omega)).1]
          rw [hs, (W0 (u + 6) (by omega) (by omega) (by omega) (by omega) (by omega)).1, (W0 (t + 29 + 2) (by omega) (by omega) (by omega) (by omega) (by omega)).1]
          refine ⟨y1.keep ?_ ?_ ?_ ?_, y2, y3, y4⟩ <;> exact W0 _ (by unfold hT; omega) (by unfold hT; omega) (by unfold hT; omega) (by unfold hT; omega) (by unfold hT; omega)
      refine h.fin hS hH (fun q hq => by unfold UsedC at hq; exact W0 q (by omega) (by omega) (by omega) (by omega) (by omega)) ?_ (fun k hk => ?_) (fun k hk => ?_)
      · rw [mI_e, mI_n1 (by omega), (g2 t (by omega)).1, ← hR, ← hM1]; simp (disch := omega) only [mI_n1, mI_n2, mI_e, mJ_n1, mJ_n2, mJ_e, mI_sJ, mI_sR, mJ_sI, mJ_sR, mR_sI, mR_sJ]
      · rw [mI_n1 (by omega), (g2 t (by omega)).1, ← hR, ← hM1]; simp (disch := omega) only [mI_n1, mI_n2, mI_e, mJ_n1, mJ_n2, mJ_e, mI_sJ, mI_sR, mJ_sI, mJ_sR, mR_sI, mR_sJ]
        rw [(e3 t (by omega)).1]
      · have k0 : k ≠ 0 := fun z => by rw [z] at hk; exact absurd hk (by decide)
        have k1 : k ≠ 1 := fun z => by rw [z] at hk; exact absurd hk (by decide)
        have k8 : k ≠ 8 := fun z => by rw [z] at hk; exact absurd hk (by decide)
        rw [mI_n2 k1, (g2 u (by omega)).1, ← hR, ← hM1]; simp (disch := omega) only [mI_n1, mI_n2, mI_e, mJ_n1, mJ_n2, mJ_e, mI_sJ, mI_sR, mJ_sI, mJ_sR, mR_sI, mR_sJ]
        rw [(e3 u (by omega)).1]
