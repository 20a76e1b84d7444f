/-! ===== four are taken ===== -/
def sam (f : Nat → Nat) : Prop := f 1 % 4 = f 0 % 4 ∧ f 2 % 4 = f 0 % 4 ∧ f 3 % 4 = f 0 % 4
/-- four are taken -/
def TK (A : Mem) (b w pl : Nat) (V : Nat → Nat) (Y : Nat) (C : Nat → Nat → Nat → Nat) (P : Nat → Bool) : Prop :=
  (mR A b 5 = some w ∧ mI A b 6 = Int32.ofNat pl) ∧ (mI A b 7 = Int32.ofNat (fif V Y (C pl 1) (fC P) 4 16) ∧ ∀ v, 1 ≤ v → v < 32 → mI A (b + 5) v = Int32.ofNat (fbv V Y (C pl 1) (fC P) v 16)) ∧
  (∀ r, r < 13 → mI A (b + 3) r = Int32.ofNat (prs (C pl 2) (fun k => fC P k / 4) 4 + cnk (fun k => fC P k / 4) 4 r * C pl 2 r)) ∧ (∀ r, r < 13 → mI A (b + 4) r = Int32.ofNat (rsn (C pl 3) (fun i => cnk (fun k => fC P k / 4) 4 i + if i = r then 1 else 0) 14)) ∧
  ((sam (fC P) ∧ mI A b 8 = Int32.ofNat (fC P 0 % 4)) ∨ (¬ sam (fC P) ∧ mI A b 8 = -1)) ∧ Bs (mJ A b 9) (fun c => decide (c / 4 = 10) && P c)
theorem imx0 {x : Nat} (h : x < 2147483648) : imx 0 (Int32.ofNat x) = Int32.ofNat x := by
  unfold imx
  by_cases z : (0 : Int32) < Int32.ofNat x
  · rw [if_pos z]
  · rw [if_neg z]
    have : x = 0 := by
      apply Classical.byContradiction
      intro q
      exact z ((nn_lt (a := 0) (by omega) h).mpr (by omega))
    rw [this]; rfl
theorem take_c {b w pl Y : Nat} {V : Nat → Nat} {C : Nat → Nat → Nat → Nat} {P : Nat → Bool} {x : Int64} {A : Mem} (hd : b + 6 ≤ w ∨ w + 12 ≤ b) (hW : WV A w V Y C) (hp : pl < 2) (hx : Bs x P) (h4 : (cs P).length = 4) : So (FX2_take b x (Int32.ofNat pl) w A) (fun N => Eo (fun q => b ≤ q ∧ q < b + 6) A N ∧ TK N b w pl V Y C P) := by
  have m52 : ∀ k, k < 4 → fC P k < 52 := fun k hk => (fC_mem (by omega)).1
  unfold FX2_take
  refine So_nm (So_nm (So_nm ?_))
  generalize hM3 : sJ (sI (sR A b 5 (some w)) b 6 (Int32.ofNat pl)) b 9 0 = M3
  have E3 : Eo (fun q => b ≤ q ∧ q < b + 6) A M3 := by rw [← hM3]; exact ((Eo_sR (by omega)).tr (Eo_sI (by omega))).tr (Eo_sJ (by omega))
  have a5 : mR M3 b 5 = some w := by rw [← hM3, mR_sJ, mR_sI, mR_sR, if_pos ⟨rfl, rfl⟩]
  have a6 : mI M3 b 6 = Int32.ofNat pl := by rw [← hM3, mI_sJ, mI_e]
  have a9 : mJ M3 b 9 = 0 := by rw [← hM3, mJ_e]
  refine loop_for 4 (by decide) (fun i N => Eo (fun q => b ≤ q ∧ q < b + 6) A N ∧ mR N b = mR M3 b ∧ mI N b = mI M3 b ∧ mJ N b = mJ M3 b ∧ ∀ k, k < i → mI N (b + 1) k = Int32.ofNat (fC P k)) M3 ⟨E3, rfl, rfl, rfl, fun k hk => absurd hk (by omega)⟩ (fun N4 rec4 hN4 => ?_) (fun i N rec hi hN hr => ?_)
  rotate_left
  · obtain ⟨n1, n2, n3, n4, n5⟩ := hN
    refine So.ite (fun z => absurd z (nle hi (by decide))) (fun _ => So.bindE (hx.at (show i < 52 by omega)) ?_)
    rw [fC_at (by omega), nn_ix (by omega), imx0 (by have := m52 i hi; omega)]
    refine So_gd (inb_nn hi (by decide)) (So_nm (So_nm (hr _ ⟨n1.tr (Eo_sI (by omega)), n2, by funext k; rw [mI_n1 (by omega), n3], n4, fun k hk => ?_⟩)))
    by_cases z : k = i
    · rw [z, mI_e]
    · rw [mI_n2 z]; exact n5 k (by omega)
  refine So.ite (fun _ => ?_) (fun z => absurd z (ge_self 4))
  obtain ⟨n1, n2, n3, n4, n5⟩ := hN4
  have st : ∀ k, k < 4 → irm (Int32.ofNat (fC P k)) 4 = Int32.ofNat (fC P k % 4) := fun k hk => nn_rem (b := 4) (by have := m52 k hk; omega) (by decide)
  rw [n5 0 (by decide), st 0 (by decide)]
  refine So_nm ?_
  generalize hM9 : sI N4 b 8 (Int32.ofNat (fC P 0 % 4)) = M9
  have E9 : Eo (fun q => b ≤ q ∧ q < b + 6) A M9 := by rw [← hM9]; exact n1.tr (Eo_sI (by omega))
  have b5 : mR M9 b 5 = some w := by rw [← hM9, mR_sI, n2, a5]
  have b6 : mI M9 b 6 = Int32.ofNat pl := by rw [← hM9, mI_n2 (by decide), n3, a6]
  have b8 : mI M9 b 8 = Int32.ofNat (fC P 0 % 4) := by rw [← hM9, mI_e]
  have b9 : mJ M9 b 9 = 0 := by rw [← hM9, mJ_sI, n4, a9]
  have bc : ∀ k, k < 4 → mI M9 (b + 1) k = Int32.ofNat (fC P k) := fun k hk => by rw [← hM9, mI_n1 (by omega)]; exact n5 k hk
  refine loop_for 4 (by decide) (fun i N => Eo (fun q => b ≤ q ∧ q < b + 6) A N ∧ mR N b = mR M9 b ∧ (∀ k, k ≠ 8 → mI N b k = mI M9 b k) ∧ mJ N b = mJ M9 b ∧ mI N (b + 1) = mI M9 (b + 1) ∧ (((∀ j, j < i → fC P j % 4 = fC P 0 % 4) ∧ mI N b 8 = Int32.ofNat (fC P 0 % 4)) ∨ ((∃ j, j < 4 ∧ fC P j % 4 ≠ fC P 0 % 4) ∧ mI N b 8 = -1))) M9 ⟨E9, rfl, fun _ _ => rfl, rfl, rfl, Or.inl ⟨fun j hj => absurd hj (by omega), b8⟩⟩ (fun N5 rec5 hN5 => ?_) (fun i N rec hi hN hr => ?_)
  rotate_left
  · obtain ⟨m1, m2, m3, m4, m5, m6⟩ := hN
    refine So.ite (fun z => absurd z (nle hi (by decide))) (fun _ => ?_)
    rw [nn_ix (by omega), m5, bc i hi, st i hi]
    refine So_gd (inb_nn hi (by decide)) (So_jn1R (fun K => Eo (fun q => b ≤ q ∧ q < b + 6) A K ∧ mR K b = mR M9 b ∧ (∀ k, k ≠ 8 → mI K b k = mI M9 b k) ∧ mJ K b = mJ M9 b ∧ mI K (b + 1) = mI M9 (b + 1) ∧ (((∀ j, j < i + 1 → fC P j % 4 = fC P 0 % 4) ∧ mI K b 8 = Int32.ofNat (fC P 0 % 4)) ∨ ((∃ j, j < 4 ∧ fC P j % 4 ≠ fC P 0 % 4) ∧ mI K b 8 = -1))) (fun K hK => So_nm (hr _ hK)) (fun j hj => ?_))
    have neg1 : ¬ Int32.ofNat (fC P i % 4) = -1 := fun q => by
      have := congrArg Int32.toInt q
      rw [nn_int (by omega), show (-1 : Int32).toInt = -1 from rfl] at this; omega
    refine So.ite (fun z => hj _ ⟨m1, m2, m3, m4, m5, ?_⟩) (fun z => So_nm (hj _ ⟨m1.tr (Eo_sI (by omega)), m2, fun k hk => by rw [mI_n2 hk]; exact m3 k hk, m4, by funext k; rw [mI_n1 (by omega), m5], Or.inr ⟨?_, mI_e⟩⟩))
    · rcases m6 with ⟨p1, p2⟩ | ⟨p1, p2⟩
      · rw [p2, nn_eq (by omega) (by omega)] at z
        refine Or.inl ⟨fun j hj => ?_, p2⟩
        by_cases y : j = i
        · rw [y]; exact z
        · exact p1 j (by omega)
      · rw [p2] at z; exact absurd z neg1
    · rcases m6 with ⟨p1, p2⟩ | ⟨p1, p2⟩
      · rw [p2, nn_eq (by omega) (by omega)] at z
        exact ⟨i, hi, z⟩
      · exact p1
  refine So.ite (fun _ => ?_) (fun z => absurd z (ge_self 4))
  obtain ⟨m1, m2, m3, m4, m5, m6⟩ := hN5
  have hsam : (sam (fC P) ∧ mI N5 b 8 = Int32.ofNat (fC P 0 % 4)) ∨ (¬ sam (fC P) ∧ mI N5 b 8 = -1) := by
    rcases m6 with ⟨p1, p2⟩ | ⟨⟨j, j4, p1⟩, p2⟩
    · exact Or.inl ⟨⟨p1 1 (by omega), p1 2 (by omega), p1 3 (by omega)⟩, p2⟩
    · refine Or.inr ⟨fun q => ?_, p2⟩
      obtain rfl | rfl | rfl | rfl : j = 0 ∨ j = 1 ∨ j = 2 ∨ j = 3 := by omega
      · exact p1 rfl
      · exact p1 q.1
      · exact p1 q.2.1
      · exact p1 q.2.2
  refine loop_for 4 (by decide) (fun i N => Eo (fun q => b ≤ q ∧ q < b + 6) A N ∧ mR N b = mR M9 b ∧ mI N b = mI N5 b ∧ mI N (b + 1) = mI M9 (b + 1) ∧ Bs (mJ N b 9) (fun c => decide (c / 4 = 10) && (List.range i).any (fun j => decide (fC P j = c)))) N5 ⟨m1, m2, rfl, m5, by rw [m4, b9]; exact Bs.zero.congr (fun c _ => by simp)⟩ (fun N6 rec6 hN6 => ?_) (fun i N rec hi hN hr => ?_)
  rotate_left
  · obtain ⟨q1, q2, q3, q4, q5⟩ := hN
    refine So.ite (fun z => absurd z (nle hi (by decide))) (fun _ => ?_)
    rw [nn_ix (by omega), q4, bc i hi, show Int32.ofNat (fC P i) / 4 = Int32.ofNat (fC P i / 4) from nn_div (b := 4) (by have := m52 i hi; omega) (by decide)]
    have e10 : (Int32.ofNat (fC P i / 4) = 10) ↔ fC P i / 4 = 10 := nn_eq (b := 10) (by have := m52 i hi; omega) (by omega)
    refine So_gd (inb_nn hi (by decide)) (So_jn1R (fun K => Eo (fun q => b ≤ q ∧ q < b + 6) A K ∧ mR K b = mR M9 b ∧ mI K b = mI N5 b ∧ mI K (b + 1) = mI M9 (b + 1) ∧ Bs (mJ K b 9) (fun c => decide (c / 4 = 10) && (List.range (i + 1)).any (fun j => decide (fC P j = c)))) (fun K hK => So_nm (hr _ hK)) (fun j hj => ?_))
    have ea : ∀ c, (List.range (i + 1)).any (fun j => decide (fC P j = c)) = ((List.range i).any (fun j => decide (fC P j = c)) || decide (fC P i = c)) := fun c => by
      rw [List.range_succ, List.any_append]; simp
    refine So.ite (fun z => hj _ ⟨q1, q2, q3, q4, q5.congr (fun c hc => ?_)⟩) (fun z => So_gd (inb_nn hi (by decide)) (So.bindE (bit_nn (m52 i hi)) (So_nm (hj _ ⟨q1.tr (Eo_sJ (by omega)), q2, q3, q4, ?_⟩))))
    · rw [ea]
      by_cases y : fC P i = c
      · rw [← y, decide_eq_false (fun q => z (e10.mpr q))]; simp
      · rw [decide_eq_false y, Bool.or_false]
    · rw [mJ_e]
      refine (q5.or (Bs.one (m52 i hi))).congr (fun c hc => ?_)
      rw [ea]
      have z := e10.mp (Classical.not_not.mp z)
      by_cases y : fC P i = c
      · subst y; simp [z]
      · rw [decide_eq_false y, decide_eq_false (show ¬ c = fC P i from fun q => y q.symm)]; simp
  refine So.ite (fun _ => ?_) (fun z => absurd z (ge_self 4))
  obtain ⟨q1, q2, q3, q4, q5⟩ := hN6
  have hC6 : Crd N6 b w pl (fC P) := ⟨by rw [q2, b5], by rw [q3, m3 6 (by decide), b6], fun k hk => ⟨m52 k hk, by rw [q4]; exact bc k hk⟩⟩
  refine So.bind (takeFifteens_c hd (hW.keep (fun q a c => q1 q (by omega))) hp hC6) (fun N7 h7 => ?_)
  obtain ⟨r1, r2, r3, r4, r5, r6⟩ := h7
  have E7 := q1.tr (r1.up (fun q hq => by show b ≤ q ∧ q < b + 6; omega))
  have hC7 : Crd N7 b w pl (fC P) := hC6.keep (by rw [r4]) (r2 6 (by decide)) (r1 (b + 1) (by omega)).1
  refine So.bind (takeRanks_c hd (hW.keep (fun q a c => E7 q (by omega))) hp hC7) (fun N8 h8 => So.ok ?_)
  obtain ⟨t1, t2, t3⟩ := h8
  refine ⟨E7.tr (t1.up (fun q hq => by show b ≤ q ∧ q < b + 6; omega)), ⟨?_, ?_⟩, ⟨?_, fun v a c => ?_⟩, t2, t3, ?_, ?_⟩
  · rw [(t1 b (by omega)).2.2.1]; exact hC7.1
  · rw [(t1 b (by omega)).1]; exact hC7.2.1
  · rw [(t1 b (by omega)).1]; exact r5
  · rw [(t1 (b + 5) (by omega)).1]; exact r6 v a c
  · rw [(t1 b (by omega)).1, r2 8 (by decide), q3]; exact hsam
  · rw [(t1 b (by omega)).2.1, r3]
    refine q5.congr (fun c hc => ?_)
    congr 1
    by_cases y : P c = true
    · obtain ⟨k, k1, k2⟩ := fC_ex hc y
      rw [y]
      exact List.any_eq_true.mpr ⟨k, List.mem_range.mpr (by omega), decide_eq_true k2⟩
    · rw [Bool.not_eq_true] at y
      rw [y]
      exact List.any_eq_false.mpr (fun k hk => by
        have := (fC_mem (P := P) (k := k) (by have := List.mem_range.mp hk; omega)).2
        simp only [decide_eq_true_eq]
        exact fun q => by rw [q, y] at this; cases this)
