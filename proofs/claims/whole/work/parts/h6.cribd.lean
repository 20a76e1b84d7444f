/-! ===== the class reckons a crib: runs, flushes, nobs ===== -/
def RkO (x y : Nat) (b : Nat) (M : Mem) : Prop := ∀ r, r < 13 → mI M (b + 8) r = Int32.ofNat (mine x y r)
theorem CrS.keep {A B : Mem} {b ww Y x y N : Nat} {V w : Nat → Nat} {C : Nat → Nat → Nat → Nat} (h : CrS A b ww Y V C w x y N) (hd : ww + 12 ≤ b) (e : Eo (fun q => q = b + 8) A B) : CrS B b ww Y V C w x y N := by
  obtain ⟨h1, h2, h3, h4, h5, h6, h7, h8⟩ := h
  have e0 := e b (by omega)
  refine ⟨by rw [e0.2.2.1]; exact h1, h2.keep (fun q a c => e q (by omega)), by rw [e0.1]; exact h3, by rw [e0.1]; exact h4, by rw [e0.1]; exact h5, fun r hr => by rw [(e (b + 6) (by omega)).1]; exact h6 r hr, fun s hs => by rw [(e (b + 7) (by omega)).1]; exact h7 s hs, fun j hj m hm => by rw [(e (b + 2 + j) (by omega)).2.1]; exact h8 j hj m hm⟩
theorem runsWith_c {A : Mem} {b ww Y x y N i j k : Nat} {V w : Nat → Nat} {C : Nat → Nat → Nat → Nat} (h : CrS A b ww Y V C w x y N) (hd : ww + 12 ≤ b) (hw : one01 w) (hi : i ≤ j) (hj : j ≤ k) (hk : k < 13) (hx : x < 52) (hy : y < 52) (hR : RkO x y b A) : So (FX0_runsWith b (Int32.ofNat i) (Int32.ofNat j) (Int32.ofNat k) A) (fun r => r.1 = Int64.ofNat (oft w i j k * rkH (C 1 3) x y i j k) ∧ Eo (fun q => q = b + 8) A r.2 ∧ RkO x y b r.2) := by
  obtain ⟨r4, hW, r5, r6, r7, s1', _⟩ := id h
  have ci := come_le (r := i) hw 52 (by omega)
  have cj := come_le (r := j) hw 52 (by omega)
  have ck := come_le (r := k) hw 52 (by omega)
  unfold FX0_runsWith
  refine So_jn1R (fun v => v = Int64.ofNat (oft w i j k)) (fun v hv => ?_) (fun j2 hj2 => ?_)
  · rw [nn_ix (by omega), nn_ix (by omega), nn_ix (by omega)]
    have m3 : ∀ r, mine x y r ≤ 2 := fun r => by unfold mine; split <;> split <;> omega
    refine So_gd (inb_nn (by omega) (by decide)) (So_gd (inb_nn (by omega) (by decide)) (So_nm (So_gd (inb_nn (by omega) (by decide)) (So_gd (inb_nn (by omega) (by decide)) (So_nm (So_gd (inb_nn (by omega) (by decide)) (So_gd (inb_nn (by omega) (by decide)) (So_nm ?_))))))))
    -- one more at a place
    have inc : ∀ (X : Mem) (g : Nat → Nat) (z : Nat), z < 13 → (∀ r, r < 13 → mI X (b + 8) r = Int32.ofNat (g r)) → ∀ r, r < 13 → mI (sI X (b + 8) z (mI X (b + 8) z + 1)) (b + 8) r = Int32.ofNat (g r + if z = r then 1 else 0) := fun X g z hz hX r hr => by
      by_cases q : r = z
      · subst q; rw [mI_e, hX r hr, s1, if_pos rfl]
      · rw [mI_n2 q, hX r hr, if_neg (fun y => q y.symm), Nat.add_zero]
    have dec : ∀ (X : Mem) (g : Nat → Nat) (z : Nat), z < 13 → (∀ r, r < 13 → g r < 100) → (∀ r, r < 13 → mI X (b + 8) r = Int32.ofNat (g r + if z = r then 1 else 0)) → ∀ r, r < 13 → mI (sI X (b + 8) z (mI X (b + 8) z - 1)) (b + 8) r = Int32.ofNat (g r) := fun X g z hz hg hX r hr => by
      by_cases q : r = z
      · subst q
        rw [mI_e, hX r hr, if_pos rfl]
        exact nn_sub (a := g r + 1) (b := 1) (by omega) (by have := hg r hr; omega)
      · rw [mI_n2 q, hX r hr, if_neg (fun y => q y.symm), Nat.add_zero]
    generalize hM6 : sI A (b + 8) i (mI A (b + 8) i + 1) = M6
    generalize hM10 : sI M6 (b + 8) j (mI M6 (b + 8) j + 1) = M10
    generalize hM14 : sI M10 (b + 8) k (mI M10 (b + 8) k + 1) = M14
    have q6 := inc A (mine x y) i (by omega) hR
    rw [hM6] at q6
    have q10 := inc M6 _ j (by omega) q6
    rw [hM10] at q10
    have q14 := inc M10 _ k (by omega) q10
    rw [hM14] at q14
    have E14 : Eo (fun q => q = b + 8) A M14 := by
      rw [← hM14, ← hM10, ← hM6]
      exact ((Eo_sI (P := fun q => q = b + 8) rfl).tr (Eo_sI rfl)).tr (Eo_sI rfl)
    have h14 := h.keep hd E14
    rw [h14.1]
    refine So_nm ?_
    show So ((FX10_runsOf ww (b + 8) 13 1 M14).bind _) _
    have eh : (fun r => mine x y r + (if i = r then 1 else 0) + (if j = r then 1 else 0) + (if k = r then 1 else 0)) = cnk (f5 (x / 4) (y / 4) i j k) 5 := by
      funext r
      show _ = 0 + (if x / 4 = r then 1 else 0) + (if y / 4 = r then 1 else 0) + (if i = r then 1 else 0) + (if j = r then 1 else 0) + (if k = r then 1 else 0)
      unfold mine; omega
    have ro := runs_c (pl := 1) (p := b + 8) (h := fun r => mine x y r + (if i = r then 1 else 0) + (if j = r then 1 else 0) + (if k = r then 1 else 0)) h14.2.1 (by decide) q14 (by
      unfold mine
      show (if x / 4 = 13 then 1 else 0) + (if y / 4 = 13 then 1 else 0) + (if i = 13 then 1 else 0) + (if j = 13 then 1 else 0) + (if k = 13 then 1 else 0) = 0
      rw [if_neg (by omega), if_neg (by omega), if_neg (by omega), if_neg (by omega), if_neg (by omega)]) (fun z => by rw [eh]; exact cnk_sum 5 z) (fun z => by
      have := congrFun eh z
      show mine x y z + (if i = z then 1 else 0) + (if j = z then 1 else 0) + (if k = z then 1 else 0) ≤ 5
      have e2 : mine x y z + (if i = z then 1 else 0) + (if j = z then 1 else 0) + (if k = z then 1 else 0) = cnk (f5 (x / 4) (y / 4) i j k) 5 z := this
      rw [e2]; exact cnk_le)
    have bnd : rkH (C 1 3) x y i j k ≤ 309375 := by
      have := rns_le (R := C 1 3) (f := f5 x y (4 * i) (4 * j) (4 * k)) (fun z => hW.cle 1 3 z)
      rw [rns_H, show 4 * i / 4 = i by omega, show 4 * j / 4 = j by omega, show 4 * k / 4 = k by omega] at this
      exact this
    have ro : FX10_runsOf ww (b + 8) 13 1 M14 = some (Int32.ofNat (rkH (C 1 3) x y i j k)) := ro
    rw [ob ro, i64_nn (by omega)]
    refine So_nm (So_gd (inb_nn (by omega) (by decide)) (So_gd (inb_nn (by omega) (by decide)) (So_nm (So_gd (inb_nn (by omega) (by decide)) (So_gd (inb_nn (by omega) (by decide)) (So_nm (So_gd (inb_nn (by omega) (by decide)) (So_gd (inb_nn (by omega) (by decide)) (So_nm ?_)))))))))
    generalize hM27 : sI M14 (b + 8) i (mI M14 (b + 8) i - 1) = M27
    generalize hM31 : sI M27 (b + 8) j (mI M27 (b + 8) j - 1) = M31
    generalize hM35 : sI M31 (b + 8) k (mI M31 (b + 8) k - 1) = M35
    have sm3 : ∀ a c d e : Nat, (if a = c then 1 else 0) ≤ 1 := fun a c _ _ => by split <;> omega
    have d27 := dec M14 (fun r => mine x y r + (if j = r then 1 else 0) + (if k = r then 1 else 0)) i (by omega) (fun r _ => by have := m3 r; have := sm3 j r 0 0; have := sm3 k r 0 0; show mine x y r + (if j = r then 1 else 0) + (if k = r then 1 else 0) < 100; omega) (fun r hr => by rw [q14 r hr]; congr 1; show _ = mine x y r + (if j = r then 1 else 0) + (if k = r then 1 else 0) + _; omega)
    rw [hM27] at d27
    have d31 := dec M27 (fun r => mine x y r + (if k = r then 1 else 0)) j (by omega) (fun r _ => by have := m3 r; have := sm3 k r 0 0; show mine x y r + (if k = r then 1 else 0) < 100; omega) (fun r hr => by rw [d27 r hr]; congr 1; show mine x y r + (if j = r then 1 else 0) + (if k = r then 1 else 0) = mine x y r + (if k = r then 1 else 0) + _; omega)
    rw [hM31] at d31
    have d35 := dec M31 (mine x y) k (by omega) (fun r _ => by have := m3 r; omega) d31
    rw [hM35] at d35
    rw [hv, jn_mul]
    refine So.ok ⟨rfl, ?_, d35⟩
    show Eo (fun q => q = b + 8) A M35
    rw [← hM35, ← hM31, ← hM27]
    exact (((E14.tr (Eo_sI rfl)).tr (Eo_sI rfl)).tr (Eo_sI rfl))
  · rw [nn_ix (by omega), nn_ix (by omega), nn_ix (by omega), s1' i (by omega), s1' j (by omega), s1' k hk, i64_nn (by omega), i64_nn (by omega), i64_nn (by omega)]
    have eik : (Int32.ofNat i = Int32.ofNat k) ↔ i = k := nn_eq (by omega) (by omega)
    have eij : (Int32.ofNat i = Int32.ofNat j) ↔ i = j := nn_eq (by omega) (by omega)
    have ejk : (Int32.ofNat j = Int32.ofNat k) ↔ j = k := nn_eq (by omega) (by omega)
    by_cases z : i = k
    · rw [if_neg (fun q => q (eik.mpr z))]
      exact So_gd (inb_nn (by omega) (by decide)) (So.bindE (ch_t3 _ (by omega)) (hj2 _ (by unfold oft; rw [if_pos z])))
    rw [if_pos (fun q => z (eik.mp q))]
    by_cases z2 : i = j
    · rw [if_neg (fun q => q (eij.mpr z2))]
      refine So_gd (inb_nn (by omega) (by decide)) (So.bindE (ch_t2 _ (by omega)) (So_gd (inb_nn (by omega) (by decide)) (So_nm ?_)))
      rw [jn_mul]; exact hj2 _ (by unfold oft; rw [if_neg z, if_pos z2])
    rw [if_pos (fun q => z2 (eij.mp q))]
    by_cases z3 : j = k
    · rw [if_neg (fun q => q (ejk.mpr z3))]
      refine So_gd (inb_nn (by omega) (by decide)) (So.bindE (ch_t2 _ (by omega)) (So_gd (inb_nn (by omega) (by decide)) (So_nm ?_)))
      rw [jn_mul]; exact hj2 _ (by unfold oft; rw [if_neg z, if_neg z2, if_pos z3])
    rw [if_pos (fun q => z3 (ejk.mp q))]
    refine So_gd (inb_nn (by omega) (by decide)) (So_gd (inb_nn (by omega) (by decide)) (So_gd (inb_nn (by omega) (by decide)) (So_nm ?_)))
    rw [jn_mul, jn_mul]; exact hj2 _ (by unfold oft; rw [if_neg z, if_neg z2, if_neg z3])
theorem runsS_c {A : Mem} {b ww Y x y N : Nat} {V w : Nat → Nat} {C : Nat → Nat → Nat → Nat} (h : CrS A b ww Y V C w x y N) (hd : ww + 12 ≤ b) (hw : one01 w) (hx : x < 52) (hy : y < 52) : So (FX0_runs b A) (fun r => r.1 = Int64.ofNat (rwS w (C 1 3) x y) ∧ Eo (fun q => q = b + 8) A r.2) := by
  unfold FX0_runs
  refine So.bind (fill_c (p := b + 8) (n := 13) (v := 0) (by decide)) (fun M2 h2 => ?_)
  have g2 := h.keep hd h2.1
  have d4 : ∀ z, z < 52 → Int32.ofNat z / 4 = Int32.ofNat (z / 4) := fun z hz => nn_div (b := 4) (by omega) (by decide)
  rw [g2.2.2.1, d4 x hx, nn_ix (by omega), h2.2 _ (by omega)]
  refine So_gd (inb_nn (by omega) (by decide)) (So_gd (inb_nn (by omega) (by decide)) (So_nm ?_))
  rw [mI_n1 (show b ≠ b + 8 by omega), g2.2.2.2.1, d4 y hy, nn_ix (by omega)]
  refine So_gd (inb_nn (by omega) (by decide)) (So_gd (inb_nn (by omega) (by decide)) (So_nm ?_))
  generalize hM9 : sI (sI M2 (b + 8) (x / 4) (0 + 1)) (b + 8) (y / 4) (mI (sI M2 (b + 8) (x / 4) (0 + 1)) (b + 8) (y / 4) + 1) = M9
  have E9 : Eo (fun q => q = b + 8) A M9 := by rw [← hM9]; exact (h2.1.tr (Eo_sI rfl)).tr (Eo_sI rfl)
  have R9 : RkO x y b M9 := fun r hr => by
    have f1 : ∀ r, r < 13 → mI (sI M2 (b + 8) (x / 4) (0 + 1)) (b + 8) r = Int32.ofNat (if x / 4 = r then 1 else 0) := fun r hr => by
      by_cases z : r = x / 4
      · rw [z, mI_e, if_pos rfl]; rfl
      · rw [mI_n2 z, h2.2 r hr, if_neg (fun q => z q.symm)]; rfl
    rw [← hM9]
    unfold mine
    by_cases z : r = y / 4
    · rw [z, mI_e, f1 _ (by omega), s1, if_pos (show y / 4 = y / 4 from rfl)]
    · rw [mI_n2 z, f1 r hr, if_neg (show ¬ y / 4 = r from fun q => z q.symm), Nat.add_zero]
  refine loop_accM 0 13 (by decide) (by omega) (fun i a M => Eo (fun q => q = b + 8) A M ∧ RkO x y b M ∧ a = Int64.ofNat (sm (fun i => sm (fun j => sm (fun k => if i ≤ j ∧ j ≤ k then oft w i j k * rkH (C 1 3) x y i j k else 0) 13) 13) i)) 0 M9 ⟨E9, R9, rfl⟩ (fun a M rec hI => ?_) (fun i a M rec _ hi hI hr => ?_)
  · rw [if_pos (by decide)]
    exact So.ok ⟨hI.2.2, hI.1⟩
  · obtain ⟨e1, e2, rfl⟩ := hI
    rw [if_neg (show ¬ (13 : Int32) ≤ Int32.ofNat i from nle (n := 13) hi (by decide))]
    refine loop_accM i 13 (by decide) (by omega) (fun j a M => Eo (fun q => q = b + 8) A M ∧ RkO x y b M ∧ a = Int64.ofNat (sm (fun i => sm (fun j => sm (fun k => if i ≤ j ∧ j ≤ k then oft w i j k * rkH (C 1 3) x y i j k else 0) 13) 13) i + sm (fun j => sm (fun k => if i ≤ j ∧ j ≤ k then oft w i j k * rkH (C 1 3) x y i j k else 0) 13) j)) _ M ⟨e1, e2, ?_⟩ (fun a M2 rec2 hI2 => ?_) (fun j a M2 rec2 ij hj hI2 hr2 => ?_)
    · rw [sm_0 (n := i) (g := fun j => sm (fun k => if i ≤ j ∧ j ≤ k then oft w i j k * rkH (C 1 3) x y i j k else 0) 13) (fun j hj => sm_0 (fun k _ => if_neg (by omega))), Nat.add_zero]
    · rw [if_pos (by decide)]
      exact So_nm (hr _ _ ⟨hI2.1, hI2.2.1, hI2.2.2⟩)
    · obtain ⟨f1, f2, rfl⟩ := hI2
      rw [if_neg (show ¬ (13 : Int32) ≤ Int32.ofNat j from nle (n := 13) hj (by decide))]
      refine loop_accM j 13 (by decide) (by omega) (fun k a M => Eo (fun q => q = b + 8) A M ∧ RkO x y b M ∧ a = Int64.ofNat (sm (fun i => sm (fun j => sm (fun k => if i ≤ j ∧ j ≤ k then oft w i j k * rkH (C 1 3) x y i j k else 0) 13) 13) i + sm (fun j => sm (fun k => if i ≤ j ∧ j ≤ k then oft w i j k * rkH (C 1 3) x y i j k else 0) 13) j + sm (fun k => if i ≤ j ∧ j ≤ k then oft w i j k * rkH (C 1 3) x y i j k else 0) k)) _ M2 ⟨f1, f2, ?_⟩ (fun a M3 rec3 hI3 => ?_) (fun k a M3 rec3 jk hk hI3 hr3 => ?_)
      · rw [sm_0 (n := j) (g := fun k => if i ≤ j ∧ j ≤ k then oft w i j k * rkH (C 1 3) x y i j k else 0) (fun k hk => if_neg (by omega)), Nat.add_zero]
      · rw [if_pos (by decide)]
        refine So_nm (hr2 _ _ ⟨hI3.1, hI3.2.1, ?_⟩)
        rw [hI3.2.2, Nat.add_assoc]; rfl
      · obtain ⟨g1', g2', rfl⟩ := hI3
        rw [if_neg (show ¬ (13 : Int32) ≤ Int32.ofNat k from nle (n := 13) hk (by decide))]
        refine So_bdM (runsWith_c (h.keep hd g1') hd hw ij jk hk hx hy g2') (fun r M4 h4 => So_nm (So_nm (hr3 _ _ ⟨g1'.tr h4.2.1, h4.2.2, ?_⟩)))
        have e : r = Int64.ofNat (oft w i j k * rkH (C 1 3) x y i j k) := h4.1
        rw [e, jn_add, sm_s, if_pos (show i ≤ j ∧ j ≤ k from ⟨ij, jk⟩), ← Nat.add_assoc]
theorem sut_le {w : Nat → Nat} {s : Nat} (h : one01 w) : ∀ n, n ≤ 52 → sut w s n ≤ 13 := by
  have key : ∀ n, n ≤ 52 → sut w s n ≤ (n + 3 - s) / 4 ∨ 4 ≤ s := by
    intro n
    induction n with
    | zero => intro _; left; show 0 ≤ _; omega
    | succ n ih =>
      intro hn
      by_cases s4 : 4 ≤ s
      · exact Or.inr s4
      left
      have i := (ih (by omega)).resolve_right s4
      have e : sut w s (n + 1) = sut w s n + w n * (if n % 4 = s then 1 else 0) := g1_s
      rw [e]
      by_cases z : n % 4 = s
      · rw [if_pos z]
        rcases h n with y | y <;> rw [y] <;> omega
      · rw [if_neg z]; omega
  intro n hn
  rcases key n hn with a | a
  · omega
  · have : sut w s n = 0 := by
      unfold sut
      exact (g1_cg (h := fun _ => 0) (fun c _ => if_neg (by omega))).trans g1_0
    omega
theorem flushes_c {A : Mem} {b ww Y x y N : Nat} {V w : Nat → Nat} {C : Nat → Nat → Nat → Nat} (h : CrS A b ww Y V C w x y N) (hw : one01 w) (hx : x < 52) (hy : y < 52) : FX0_flushes b A = some (Int64.ofNat (flw w (C 1 4) x y)) := by
  obtain ⟨r4, hW, r5, r6, r7, _, s2, _⟩ := h
  have rx : irm (Int32.ofNat x) 4 = Int32.ofNat (x % 4) := nn_rem (b := 4) (by omega) (by decide)
  have ry : irm (Int32.ofNat y) 4 = Int32.ofNat (y % 4) := nn_rem (b := 4) (by omega) (by decide)
  have sl := sut_le (s := x % 4) hw 52 (by omega)
  apply So.eq
  unfold FX0_flushes flw
  rw [r5, r6, rx, ry]
  refine So_nm ?_
  have e : (Int32.ofNat (y % 4) = Int32.ofNat (x % 4)) ↔ y % 4 = x % 4 := nn_eq (by omega) (by omega)
  by_cases z : y % 4 = x % 4
  · rw [if_pos (e.mpr z), if_pos z, nn_ix (by omega), s2 _ (by omega), i64_nn (by omega)]
    refine So_gd (inb_nn (by omega) (by decide)) (So.bindE (ch_t3 _ (by omega)) ?_)
    rw [r4]
    have fi : FX10_flushItem (Int32.ofNat (x % 4)) 5 = some (Int32.ofNat (2 * (x % 4) + 1)) := by
      unfold FX10_flushItem
      rw [show (2 : Int32) * Int32.ofNat (x % 4) = Int32.ofNat (2 * (x % 4)) from nn_mul 2 _, show Int32.ofNat (2 * (x % 4)) + 5 = Int32.ofNat (2 * (x % 4) + 5) from nn_add _ 5, show Int32.ofNat (2 * (x % 4) + 5) - 4 = Int32.ofNat (2 * (x % 4) + 5 - 4) from nn_sub (b := 4) (by omega) (by omega)]
      rfl
    refine So_nm (So.bindE fi ?_)
    show So ((FX10_countOf ww 4 1 (Int32.ofNat (2 * (x % 4) + 1)) A).bind _) _
    rw [ob (show FX10_countOf ww 4 1 (Int32.ofNat (2 * (x % 4) + 1)) A = _ from hW.cnt (kind := 4) (pl := 1) (it := 2 * (x % 4) + 1) (by decide) (by decide) (by show 0 ≤ _; omega) (by show 2 * (x % 4) + 1 < 8; omega) (by omega)), i64_nn (by have := hW.cle 1 4 (2 * (x % 4) + 1); omega), jn_mul]
    exact So.ok rfl
  · rw [if_neg (fun q => z (e.mp q)), if_neg z]
    exact So.ok rfl
theorem nobs_c {A : Mem} {b ww Y x y N : Nat} {V : Nat → Nat} {C : Nat → Nat → Nat → Nat} {P : Nat → Bool} {cds : Int64} (h : CrS A b ww Y V C (wq P) x y N) (hx : x < 52) (hy : y < 52) (hN : N < 53) (hN3 : 3 ≤ N) (hB : Bs cds P) : FX0_nobs b cds A = some (Int64.ofNat (nbw (wq P) (C 1 5) x y N)) := by
  obtain ⟨r4, hW, r5, r6, r7, _, s2, _⟩ := h
  apply So.eq
  unfold FX0_nobs nbw
  refine loop_acc 0 4 (by decide) (by omega) (fun s a => a = Int64.ofNat (sm (fun s => (if x = 40 + s ∨ y = 40 + s then sut (wq P) s 52 * c2 (N - 1) else if wq P (40 + s) = 1 then (sut (wq P) s 52 - 1) * (N - 2) else 0) * C 1 5 s) s)) 0 rfl (fun a rec ha => ?_) (fun s a rec _ hs ha hr => ?_)
  · rw [if_pos (by decide), ha]; exact So.ok rfl
  · have sl := sut_le (w := wq P) (s := s) wq_01 52 (by omega)
    rw [if_neg (show ¬ (4 : Int32) ≤ Int32.ofNat s from nle (n := 4) hs (by decide)), show (40 : Int32) + Int32.ofNat s = Int32.ofNat (40 + s) from nn_add 40 s, r5, r6, r7]
    refine So_nm (So_jn1R (fun v => v = Int64.ofNat (if x = 40 + s ∨ y = 40 + s then sut (wq P) s 52 * c2 (N - 1) else if wq P (40 + s) = 1 then (sut (wq P) s 52 - 1) * (N - 2) else 0)) (fun v hv => ?_) (fun j hj => ?_))
    · rw [r4]
      refine So_nm ?_
      show So ((FX10_countOf ww 5 1 (Int32.ofNat s) A).bind _) _
      rw [ob (show FX10_countOf ww 5 1 (Int32.ofNat s) A = _ from hW.cnt (kind := 5) (pl := 1) (it := s) (by decide) (by decide) (by show 0 ≤ s; omega) (by show s < 4; omega) (by omega)), i64_nn (by have := hW.cle 1 5 s; omega), hv, jn_mul]
      refine So_nm (So_nm (hr _ ?_))
      rw [ha, jn_add, sm_s]
    · have ex : (Int32.ofNat x = Int32.ofNat (40 + s)) ↔ x = 40 + s := nn_eq (by omega) (by omega)
      have ey : (Int32.ofNat y = Int32.ofNat (40 + s)) ↔ y = 40 + s := nn_eq (by omega) (by omega)
      have eN1 : Int32.ofNat N - 1 = Int32.ofNat (N - 1) := nn_sub (b := 1) (by omega) (by omega)
      have eN2 : Int32.ofNat N - 2 = Int32.ofNat (N - 2) := nn_sub (b := 2) (by omega) (by omega)
      refine So_jn0C (x = 40 + s ∨ y = 40 + s) (fun hc => ?_) (fun j18 hj18 => ?_)
      · rw [nn_ix (by omega), eN1, s2 s hs, i64_nn (by omega), i64_nn (by omega)]
        refine So_gd (inb_nn hs (by decide)) (So.bindE (ch_t2 _ (by omega)) (So_nm ?_))
        rw [jn_mul]
        exact hj _ (by rw [if_pos hc])
      · by_cases z1 : x = 40 + s
        · rw [if_pos (ex.mpr z1)]; exact hj18 (Or.inl z1)
        rw [if_neg (fun q => z1 (ex.mp q))]
        by_cases z2 : y = 40 + s
        · rw [if_neg (fun q => q (ey.mpr z2))]; exact hj18 (Or.inr z2)
        rw [if_pos (fun q => z2 (ey.mp q)), ob (hB.has (show 40 + s < 52 by omega))]
        have no : ¬ (x = 40 + s ∨ y = 40 + s) := by omega
        by_cases z3 : P (40 + s) = true
        · rw [if_pos z3, if_neg (by decide), nn_ix (by omega), s2 s hs, eN2, i64_nn (by omega), i64_nn (by omega)]
          refine So_gd (inb_nn hs (by decide)) (So_nm ?_)
          have w1 : wq P (40 + s) = 1 := if_pos z3
          have s1' : 1 ≤ sut (wq P) s 52 := by
            have : sut (wq P) s 52 = sm (fun a => wq P a * if a % 4 = s then 1 else 0) 52 := rfl
            have u := sm_up (g := fun a => if a = 40 + s then 0 else wq P a * if a % 4 = s then 1 else 0) (h := fun a => wq P a * if a % 4 = s then 1 else 0) (n := 52) (x := 40 + s) (by omega) (fun i _ hi => by show _ = if i = 40 + s then 0 else _; rw [if_neg hi])
            rw [this]
            rw [if_pos (show 40 + s = 40 + s from rfl), w1, if_pos (show (40 + s) % 4 = s by omega)] at u
            omega
          rw [show Int64.ofNat (sut (wq P) s 52) - 1 = Int64.ofNat (sut (wq P) s 52 - 1) from jn_sub (b := 1) s1' (by omega), jn_mul]
          exact hj _ (by rw [if_neg no, if_pos w1])
        · rw [if_neg z3, if_pos rfl]
          have w0 : wq P (40 + s) = 0 := if_neg z3
          exact hj _ (by rw [if_neg no, if_neg (by rw [w0]; decide)]; rfl)
theorem cs_sm {P : Nat → Bool} : sm (wq P) 52 = (cs P).length := by
  have key : ∀ n, sm (wq P) n = ((List.range n).filter P).length := by
    intro n
    induction n with
    | zero => rfl
    | succ n ih =>
      rw [sm_s, ih, List.range_succ, List.filter_append, List.length_append]
      congr 1
      unfold wq
      by_cases z : P n = true
      · rw [if_pos z, List.filter_cons_of_pos z]; rfl
      · rw [if_neg z, List.filter_cons_of_neg z]; rfl
  exact key 52
theorem of_c {A : Mem} {b ww Y x y : Nat} {V : Nat → Nat} {C : Nat → Nat → Nat → Nat} {P : Nat → Bool} {cds : Int64} (hd : ww + 12 ≤ b) (hW : WV A ww V Y C) (hB : Bs cds P) (hx : x < 52) (hy : y < 52) (hN3 : 3 ≤ (cs P).length) : So (FX0_of b (Int32.ofNat x) (Int32.ofNat y) cds ww A) (fun r => r.1 = Int64.ofNat (cribV V Y (C 1) (wq P) x y) ∧ Eo (fun q => b ≤ q ∧ q < b + 9) A r.2) := by
  have hN : (cs P).length < 53 := by have := cs_le P; omega
  unfold FX0_of
  refine So_nm (So_nm (So_nm (So.bindE hB.count (So_nm ?_))))
  generalize hM5 : sI (sI (sI (sR A b 4 (some ww)) b 5 (Int32.ofNat x)) b 6 (Int32.ofNat y)) b 7 (Int32.ofNat (cs P).length) = M5
  have E5 : Eo (fun q => q = b) A M5 := by rw [← hM5]; exact (((Eo_sR (P := fun q => q = b) rfl).tr (Eo_sI rfl)).tr (Eo_sI rfl)).tr (Eo_sI rfl)
  have a4 : mR M5 b 4 = some ww := by rw [← hM5, mR_sI, mR_sI, mR_sI, mR_sR, if_pos ⟨rfl, rfl⟩]
  refine So.bind (sortFree_c hd (hW.keep (fun q a c => E5 q (by omega))) a4 hB) (fun M6 h6 => ?_)
  have E6 : Eo (fun q => b ≤ q ∧ q < b + 8) A M6 := (E5.up (fun q hq => by omega)).tr (h6.1.up (fun q hq => by omega))
  have e6b : Ea M5 M6 b := h6.1 b (by omega)
  have hS : CrS M6 b ww Y V C (wq P) x y (cs P).length := by
    refine ⟨by rw [e6b.2.2.1]; exact a4, hW.keep (fun q a c => E6 q (by omega)), ?_, ?_, ?_, h6.2⟩
    · rw [e6b.1, ← hM5, mI_n2 (by decide), mI_n2 (by decide), mI_e]
    · rw [e6b.1, ← hM5, mI_n2 (by decide), mI_e]
    · rw [e6b.1, ← hM5, mI_e]
  rw [ob (fifteens_c hS hN hN3 hx hy), ob (pairs_c hS wq_01 hN hN3 hx hy)]
  refine So_bdM (runsS_c hS hd wq_01 hx hy) (fun r10 M9 h9 => ?_)
  have e10 : r10 = Int64.ofNat (rwS (wq P) (C 1 3) x y) := h9.1
  have S9 := hS.keep hd h9.2
  rw [ob (flushes_c S9 wq_01 hx hy), ob (nobs_c S9 hx hy hN hN3 hB), e10, jn_add, jn_add, jn_add, show (3 : Int64) * Int64.ofNat _ = Int64.ofNat _ from jn_mul 3 _, jn_add]
  refine So.ok ⟨?_, (E6.up (fun q hq => by omega)).tr (h9.2.up (fun q hq => by omega))⟩
  unfold cribV
  rw [cs_sm]
