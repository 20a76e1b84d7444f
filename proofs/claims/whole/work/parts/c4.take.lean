/-! ===== the class takes four ===== -/
theorem fill_c {p n : Nat} {v : Int32} {M : Mem} (hn : n < 900000) : So (FJ_Arrays_fill_0 p n v M) (fun N => Eo (fun q => q = p) M N ∧ ∀ k, k < n → mI N p k = v) := by
  unfold FJ_Arrays_fill_0
  refine So_nm (loop_for n hn (fun i N => Eo (fun q => q = p) M N ∧ ∀ k, k < i → mI N p k = v) M ⟨Eo.rf, fun k hk => absurd hk (by omega)⟩ (fun N rec hN => ?_) (fun i N rec hi hN hr => ?_))
  · exact So.ite (fun _ => So.ok hN) (fun z => absurd z (ge_self n))
  · refine So.ite (fun z => absurd z (nle hi (by omega))) (fun _ => ?_)
    rw [nn_ix (by omega)]
    refine So_gd (inb_nn hi (by omega)) (So_nm (So_nm (hr _ ⟨hN.1.tr (Eo_sI rfl), fun k hk => ?_⟩)))
    by_cases z : k = i
    · rw [z, mI_e]
    · rw [mI_n2 z]; exact hN.2 k (by omega)
theorem pop_tab : ∀ s, s < 16 → FJ_Integer_bitCount (Int32.ofNat s) = some (Int32.ofNat (szS s 4)) := by decide +kernel
theorem ch_tab : ∀ c, c ≤ 4 → (Int32.ofNat c * (Int32.ofNat c - 1)) / 2 = Int32.ofNat (c * (c - 1) / 2) := by decide +kernel
/-- a Worth that fits -/
def WV (M : Mem) (w : Nat) (V : Nat → Nat) (Y : Nat) (C : Nat → Nat → Nat → Nat) : Prop := ∃ I n deal mood, WTab M w I n deal mood ∧ mI M w 4 = Int32.ofNat Y ∧ Y ≤ 31 ∧ V = vN I n deal mood ∧ C = cN I n deal mood
section WVs
variable {M N : Mem} {w Y : Nat} {V : Nat → Nat} {C : Nat → Nat → Nat → Nat}
theorem WV.keep (h : WV M w V Y C) (e : ∀ q, w ≤ q → q < w + 12 → Ea M N q) : WV N w V Y C := by
  obtain ⟨I, n, deal, mood, h1, h2, h3⟩ := h
  exact ⟨I, n, deal, mood, h1.keep e, by rw [(e w (by omega) (by omega)).1]; exact h2, h3⟩
theorem WV.val (h : WV M w V Y C) {c : Nat} (hc : c < 52) : FX10_valueOf w (Int32.ofNat c) M = some (Int32.ofNat (V c)) := by
  obtain ⟨I, n, deal, mood, h1, h2, h3, rfl, rfl⟩ := h
  rw [valueOf_c hc, h1.1 c hc, vN_eq]
theorem WV.vle (h : WV M w V Y C) (c : Nat) : 1 ≤ V c ∧ V c ≤ 31 := by
  obtain ⟨I, n, deal, mood, h1, h2, h3, rfl, rfl⟩ := h
  exact vN_rg
theorem WV.cle (h : WV M w V Y C) (pl k i : Nat) : C pl k i ≤ 99 := by
  obtain ⟨I, n, deal, mood, h1, h2, h3, rfl, rfl⟩ := h
  exact cN_le
theorem WV.tgt (h : WV M w V Y C) : mI M w 4 = Int32.ofNat Y ∧ Y ≤ 31 := by
  obtain ⟨I, n, deal, mood, h1, h2, h3, rfl, rfl⟩ := h
  exact ⟨h2, h3⟩
theorem WV.cnt (h : WV M w V Y C) {kind pl it : Nat} (hk : 1 ≤ kind ∧ kind ≤ 5) (hp : pl < 3) (h1 : fsI kind ≤ it) (h2 : it < laI kind) (h3 : it < 13) : FX10_countOf w (Int32.ofNat kind) (Int32.ofNat pl) (Int32.ofNat it) M = some (Int32.ofNat (C pl kind it)) := by
  obtain ⟨I, n, deal, mood, w1, w2, w3, rfl, rfl⟩ := h
  rw [countOf_c w1 hk hp h1 h2 h3, cN_eq]
end WVs
/-- cards, and how they were taken -/
def Crd (A : Mem) (b w pl : Nat) (f : Nat → Nat) : Prop := mR A b 5 = some w ∧ mI A b 6 = Int32.ofNat pl ∧ ∀ k, k < 4 → f k < 52 ∧ mI A (b + 1) k = Int32.ofNat (f k)
theorem Crd.keep {A B : Mem} {b w pl : Nat} {f : Nat → Nat} (h : Crd A b w pl f) (e5 : mR B b 5 = mR A b 5) (e6 : mI B b 6 = mI A b 6) (e1 : mI B (b + 1) = mI A (b + 1)) : Crd B b w pl f := by
  unfold Crd; rw [e5, e6, e1]; exact h
theorem takeFifteens_c {b w pl Y : Nat} {V : Nat → Nat} {C : Nat → Nat → Nat → Nat} {f : Nat → Nat} {A : Mem} (hd : b + 6 ≤ w ∨ w + 12 ≤ b) (hW : WV A w V Y C) (hp : pl < 2) (hC : Crd A b w pl f) : So (FX2_takeFifteens b A) (fun N => Eo (fun q => q = b ∨ q = b + 5) A N ∧ (∀ k, k ≠ 7 → mI N b k = mI A b k) ∧ mJ N b = mJ A b ∧ mR N b = mR A b ∧ mI N b 7 = Int32.ofNat (fif V Y (C pl 1) f 4 16) ∧ ∀ v, 1 ≤ v → v < 32 → mI N (b + 5) v = Int32.ofNat (fbv V Y (C pl 1) f v 16)) := by
  unfold FX2_takeFifteens
  refine So_nm (So.bind (fill_c (by decide)) (fun M3 h3 => ?_))
  obtain ⟨e3, f3⟩ := h3
  have hM3 : ∀ k, mI M3 b k = mI (sI A b 7 0) b k := fun k => by rw [(e3 b (by omega)).1]
  have v2 : ∀ c, V c ≤ 31 := fun c => (hW.vle c).2
  obtain ⟨ht, hY⟩ := hW.tgt
  refine So_wl2 (fun v4 N => ∃ s, 1 ≤ s ∧ s ≤ 16 ∧ v4 = Int32.ofNat s ∧ Eo (fun q => q = b ∨ q = b + 5) A N ∧ (∀ k, k ≠ 7 → mI N b k = mI A b k) ∧ mJ N b = mJ A b ∧ mR N b = mR A b ∧ mI N b 7 = Int32.ofNat (fif V Y (C pl 1) f 4 s) ∧ ∀ v, 1 ≤ v → v < 32 → mI N (b + 5) v = Int32.ofNat (fbv V Y (C pl 1) f v s)) (fun v4 _ => 16 - ix v4) ?_ fuel 1 M3 ⟨1, by omega, by omega, rfl, (Eo_sI (Or.inl rfl)).tr (e3.up (fun q hq => Or.inr hq)), fun k hk => by rw [hM3, mI_n2 hk], by rw [(e3 b (by omega)).2.1]; rfl, by rw [(e3 b (by omega)).2.2.1]; rfl, by rw [hM3, mI_e]; rfl, fun v a c => by rw [f3 v c]; rfl⟩ (by unfold fuel; omega)
  rintro v4 N rec ⟨s, s1', s16, rfl, n1, n2, n3, n4, n5, n6⟩ hr
  by_cases z : s = 16
  · subst z
    rw [if_pos (show (16 : Int32) ≤ Int32.ofNat 16 by decide)]
    exact So.ok ⟨n1, n2, n3, n4, n5, n6⟩
  rw [if_neg (show ¬ (16 : Int32) ≤ Int32.ofNat s from nle (n := 16) (by omega) (by decide))]
  have hWN : WV N w V Y C := hW.keep (fun q a c => n1 q (by omega))
  have hCN : Crd N b w pl f := hC.keep (by rw [n4]) (n2 6 (by decide)) (n1 (b + 1) (by omega)).1
  obtain ⟨c1, c2, c3⟩ := hCN
  refine So_wl2 (fun v8 v9 => ∃ k, k ≤ 4 ∧ v9 = Int32.ofNat k ∧ v8 = Int32.ofNat (suS V f s k)) (fun _ v9 => 4 - ix v9) ?_ fuel 0 0 ⟨0, by omega, rfl, rfl⟩ (by unfold fuel; omega)
  rintro v8 v9 rec2 ⟨k, k4, rfl, rfl⟩ hr2
  by_cases y : k = 4
  rotate_left
  · rw [if_neg (show ¬ (4 : Int32) ≤ Int32.ofNat k from nle (n := 4) (by omega) (by decide)), nn_ix (by omega), c1]
    refine So_nm (So_gd (inb_nn (by omega) (by decide)) (So.bindE rfl ?_))
    rw [(c3 k (by omega)).2]
    refine So.bindE (hWN.val (c3 k (by omega)).1) (So_nm (So_nm ?_))
    rw [bt_tab s (by omega) k (by omega), nn_mul, nn_add, s1]
    exact hr2 _ _ ⟨k + 1, by omega, rfl, rfl⟩ (by rw [nn_ix (by omega), nn_ix (by omega)]; omega)
  subst y
  rw [if_pos (show (4 : Int32) ≤ Int32.ofNat 4 by decide), c1]
  have a1 := szS_le (s := s) (m := 4)
  have a2 := suS_le (V := V) (f := f) (s := s) (m := 4) v2
  have hsz : 1 ≤ szS s 4 := by
    have : ∀ s, s < 16 → 1 ≤ s → 1 ≤ szS s 4 := by decide
    exact this s (by omega) s1'
  refine So.bindE (pop_tab s (by omega)) (So_nm (So.bindE rfl (So_nm ?_)))
  rw [hWN.tgt.1]
  have hF : fif V Y (C pl 1) f 4 (s + 1) = fif V Y (C pl 1) f 4 s + if 1 < szS s 4 ∧ suS V f s 4 = Y then C pl 1 (szS s 4) else 0 := rfl
  have hB : ∀ v, fbv V Y (C pl 1) f v (s + 1) = fbv V Y (C pl 1) f v s + if 0 < szS s 4 ∧ suS V f s 4 + v = Y then C pl 1 (szS s 4 + 1) else 0 := fun v => rfl
  refine So_jn1R (fun K => Eo (fun q => q = b ∨ q = b + 5) A K ∧ (∀ k, k ≠ 7 → mI K b k = mI A b k) ∧ mJ K b = mJ A b ∧ mR K b = mR A b ∧ mI K b 7 = Int32.ofNat (fif V Y (C pl 1) f 4 (s + 1)) ∧ ∀ v, 1 ≤ v → v < 32 → mI K (b + 5) v = Int32.ofNat (fbv V Y (C pl 1) f v (s + 1))) (fun K hK => So_nm ?_) (fun j hj => ?_)
  · rw [s1]
    exact hr _ _ ⟨s + 1, by omega, by omega, rfl, hK⟩ (by rw [nn_ix (by omega), nn_ix (by omega)]; omega)
  have same : (¬ (1 < szS s 4 ∧ suS V f s 4 = Y)) → (∀ v, 1 ≤ v → v < 32 → suS V f s 4 + v ≠ Y) → So (j N) (fun N => Eo (fun q => q = b ∨ q = b + 5) A N ∧ (∀ k, k ≠ 7 → mI N b k = mI A b k) ∧ mJ N b = mJ A b ∧ mR N b = mR A b ∧ mI N b 7 = Int32.ofNat (fif V Y (C pl 1) f 4 16) ∧ ∀ v, 1 ≤ v → v < 32 → mI N (b + 5) v = Int32.ofNat (fbv V Y (C pl 1) f v 16)) := fun q1 q2 => hj _ ⟨n1, n2, n3, n4, by rw [hF, if_neg q1, Nat.add_zero]; exact n5, fun v a c => by rw [hB, if_neg (fun q => q2 v a c q.2), Nat.add_zero]; exact n6 v a c⟩
  rcases Nat.lt_trichotomy (suS V f s 4) Y with lt | eq | gt
  · -- some is missing
    rw [nn_sub (by omega) (by omega)]
    have hm : 1 ≤ Y - suS V f s 4 ∧ Y - suS V f s 4 < 32 := by omega
    have hme : suS V f s 4 + (Y - suS V f s 4) = Y := by omega
    have hmu : ∀ v, suS V f s 4 + v = Y → v = Y - suS V f s 4 := fun v hv => by omega
    generalize Y - suS V f s 4 = m at hm hme hmu
    refine So_jn0 ?_
    rw [if_pos (show ¬ Int32.ofNat m = 0 from fun q => by have := (nn_eq (b := 0) (by omega) (by omega)).mp q; omega), if_neg (show ¬ Int32.ofNat m ≤ 0 from fun q => by have := (nn_le (b := 0) (by omega) (by omega)).mp q; omega), if_neg (show ¬ (32 : Int32) ≤ Int32.ofNat m from nle (n := 32) hm.2 (by decide)), nn_ix (by omega), c2]
    refine So_gd (inb_nn hm.2 (by decide)) (So_nm (So.bindE rfl ?_))
    rw [s1]
    refine So.bindE (hWN.cnt (kind := 1) (by decide) (by omega) (show 1 ≤ szS s 4 + 1 by omega) (show szS s 4 + 1 < 9 by omega) (by omega)) (So_gd (inb_nn hm.2 (by decide)) (So_nm (hj _ ⟨n1.tr (Eo_sI (Or.inr rfl)), fun k hk => by rw [mI_n1 (by omega)]; exact n2 k hk, n3, n4, ?_, fun v a c => ?_⟩)))
    · rw [mI_n1 (by omega), hF, if_neg (fun q => by omega), Nat.add_zero]; exact n5
    · rw [hB]
      by_cases x : v = m
      · subst x
        rw [mI_e, n6 v a c, nn_add, if_pos ⟨by omega, hme⟩]
      · rw [mI_n2 x, if_neg (fun q => x (hmu v q.2)), Nat.add_zero]; exact n6 v a c
  · -- nothing is missing
    rw [eq, show Int32.ofNat Y - Int32.ofNat Y = 0 from Int32.sub_self _]
    refine So_jn0 ?_
    rw [if_neg (by decide), if_pos (show (0 : Int32) ≤ 0 from Int32.le_refl _)]
    have e2 : (Int32.ofNat (szS s 4) < 2) ↔ szS s 4 < 2 := nn_lt (b := 2) (by omega) (by omega)
    by_cases x : szS s 4 < 2
    · rw [if_pos (e2.mpr x)]
      exact same (fun q => by omega) (fun v a c => by omega)
    · rw [if_neg (fun q => x (e2.mp q)), c2]
      refine So_nm (So.bindE rfl (So.bindE (hWN.cnt (kind := 1) (by decide) (by omega) (show 1 ≤ szS s 4 by omega) (show szS s 4 < 9 by omega) (by omega)) (So_nm (hj _ ⟨n1.tr (Eo_sI (Or.inl rfl)), fun k hk => by rw [mI_n2 hk]; exact n2 k hk, n3, n4, ?_, fun v a c => ?_⟩))))
      · rw [mI_e, n5, nn_add, hF, if_pos ⟨by omega, eq⟩]
      · rw [mI_n1 (by omega), hB, if_neg (fun q => by omega), Nat.add_zero]; exact n6 v a c
  · -- too much
    have hs : (Int32.ofNat Y - Int32.ofNat (suS V f s 4)).toInt = (Y : Int) - (suS V f s 4 : Int) := by
      rw [i_sub] <;> rw [nn_int (by omega), nn_int (by omega)] <;> omega
    generalize Int32.ofNat Y - Int32.ofNat (suS V f s 4) = d at hs
    refine So_jn0 ?_
    rw [if_pos (show ¬ d = 0 from fun q => by rw [q, show (0 : Int32).toInt = 0 from rfl] at hs; omega), if_pos (show d ≤ 0 by rw [Int32.le_iff_toInt_le, hs, show (0 : Int32).toInt = 0 from rfl]; omega)]
    exact same (fun q => by omega) (fun v a c => by omega)
/-- the class's longest run -/
theorem runs_c {w p pl Y : Nat} {V : Nat → Nat} {C : Nat → Nat → Nat → Nat} {h : Nat → Nat} {A : Mem} (hW : WV A w V Y C) (hp : pl < 2) (hh : ∀ r, r < 13 → mI A p r = Int32.ofNat (h r)) (h13 : h 13 = 0) (h5 : ∀ j, sm h j ≤ 5) (h1 : ∀ i, h i ≤ 5) : FX10_runsOf w p 13 (Int32.ofNat pl) A = some (Int32.ofNat (rsn (C pl 3) h 14)) := by
  apply So.eq
  unfold FX10_runsOf
  refine So_wl3 (fun v1 v2 v3 => ∃ r, r ≤ 14 ∧ v3 = Int32.ofNat r ∧ v1 = Int32.ofNat (rsc h r).1 ∧ v2 = Int32.ofNat (rsc h r).2 ∧ ∀ i, i < r → ¬ (h i = 0 ∧ 2 < (rsc h i).1)) (fun _ _ v3 => 14 - ix v3) ?_ fuel 0 1 0 ⟨0, by omega, rfl, rfl, rfl, fun i hi => absurd hi (by omega)⟩ (by unfold fuel; omega)
  rintro v1 v2 v3 rec ⟨r, r14, rfl, rfl, rfl, hb⟩ hr
  have hlen := Nat.le_trans (rsc_le (h := h) r) (h5 r)
  refine So_jn0 ?_
  have e13 : (13 < Int32.ofNat r) ↔ 13 < r := nn_lt (a := 13) (by omega) (by omega)
  have e13' : (13 ≤ Int32.ofNat r) ↔ 13 ≤ r := nn_le (a := 13) (by omega) (by omega)
  by_cases z : r = 14
  · subst z
    rw [if_pos (e13.mpr (by omega))]
    exact So.ok (by rw [rsn_one h5 hb]; rfl)
  rw [if_neg (fun q => by have := e13.mp q; omega), show Int32.ofNat 13 = 13 from rfl, if_neg (fun q => by have := e13.mp q; omega)]
  refine So_jn1R (fun v => v = Int32.ofNat (h r)) (fun v hv => ?_) (fun j hj => So_jn0C (13 ≤ r) (fun q => hj _ (by rw [show r = 13 by omega, h13]; rfl)) (fun j2 hj2 => ?_))
  · subst hv
    refine So_jn2R (fun a c => a = Int32.ofNat (rsc h (r + 1)).1 ∧ c = Int32.ofNat (rsc h (r + 1)).2 ∧ ¬ (h r = 0 ∧ 2 < (rsc h r).1)) (fun a c hac => So_nm ?_) (fun j hj => ?_)
    · obtain ⟨rfl, rfl, hn⟩ := hac
      rw [s1]
      refine hr _ _ _ ⟨r + 1, by omega, rfl, rfl, rfl, fun i hi => ?_⟩ (by rw [nn_ix (by omega), nn_ix (by omega)]; omega)
      by_cases y : i = r
      · rw [y]; exact hn
      · exact hb i (by omega)
    · have hle := h1 r
      have e0 : (Int32.ofNat (h r) ≤ 0) ↔ h r = 0 := by
        rw [show (0 : Int32) = Int32.ofNat 0 from rfl, nn_le (by omega) (by omega)]; omega
      have e3 : (Int32.ofNat (rsc h r).1 < 3) ↔ (rsc h r).1 < 3 := nn_lt (b := 3) (by omega) (by omega)
      by_cases y : h r = 0
      · rw [if_pos (e0.mpr y)]
        by_cases x : (rsc h r).1 < 3
        · rw [if_pos (e3.mpr x)]
          have er : rsc h (r + 1) = (0, 1) := by rw [rsc_s, if_pos y]
          exact hj _ _ ⟨by rw [er]; rfl, by rw [er]; rfl, fun q => by omega⟩
        · rw [if_neg (fun q => x (e3.mp q))]
          refine So.bindE (hW.cnt (kind := 3) (by decide) (by omega) (show 3 ≤ (rsc h r).1 by omega) (show (rsc h r).1 < 9 by omega) (by omega)) (So.ok ?_)
          obtain ⟨j', hj'⟩ : ∃ j', 14 = r + 1 + j' := ⟨13 - r, by omega⟩
          rw [hj', rsn_run h5 hb ⟨y, by omega⟩ j', nn_mul]
      · rw [if_neg (fun q => y (e0.mp q))]
        have er : rsc h (r + 1) = ((rsc h r).1 + 1, (rsc h r).2 * h r) := by rw [rsc_s, if_neg y]
        exact So_nm (So_nm (hj _ _ ⟨by rw [er]; exact s1 _, by rw [er]; exact nn_mul _ _, fun q => y q.1⟩))
  · refine So.ite (fun q => hj2 (e13'.mp q)) (fun q => So.ite (fun q' => absurd q' q) (fun _ => ?_))
    have hr13 : r < 13 := Nat.lt_of_not_le (fun x => q (e13'.mpr x))
    rw [nn_ix (by omega)]
    exact So_gd (inb_nn hr13 (by decide)) (hj _ (hh r hr13))
