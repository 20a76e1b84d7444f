/-! ===== what counts, by a clause ===== -/
theorem fs_la : ∀ k, k < 6 → ([0, 1, 0, 3, 0, 0] : List Int32).getD k 0 = Int32.ofNat (fsI k) ∧ ([0, 9, 13, 9, 8, 4] : List Int32).getD k 0 = Int32.ofNat (laI k) ∧ fsI k ≤ laI k ∧ laI k ≤ 13 := by decide
theorem tellItem_c {w kind it : Nat} {M : Mem} (hk : 1 ≤ kind ∧ kind ≤ 5) (hi : it < 13) : FX10_tellItem w (Int32.ofNat kind) (Int32.ofNat it) M = some (sI (sI (sI M (w + 2) 1 (rkI kind it)) (w + 2) 2 (suI kind it)) (w + 2) 3 (szI kind it)) := by
  apply So.eq
  unfold FX10_tellItem
  have e2 : (Int32.ofNat kind = 2) ↔ kind = 2 := nn_eq (b := 2) (by omega) (by omega)
  have e4 : (Int32.ofNat kind = 4) ↔ kind = 4 := nn_eq (b := 4) (by omega) (by omega)
  have e5 : (Int32.ofNat kind = 5) ↔ kind = 5 := nn_eq (b := 5) (by omega) (by omega)
  refine So_jn1R (fun v => v = suI kind it) (fun v1 hv1 => So_jn1R (fun v => v = szI kind it) (fun v4 hv4 => So_jn1R (fun v => v = rkI kind it) (fun v8 hv8 => ?_) (fun j9 hj9 => ?_)) (fun j5 hj5 => ?_)) (fun j2 hj2 => ?_)
  · subst hv1 hv4 hv8
    exact So.bindE (tell7 (t := w + 1) (k := 1) (by decide)) (So.bindE (tell7 (t := w + 1) (k := 2) (by decide)) (So.bindE (tell7 (t := w + 1) (k := 3) (by decide)) (So.ok rfl)))
  · unfold rkI at hj9
    by_cases z : kind = 2
    · rw [if_neg (fun y => y (e2.mpr z))]; exact hj9 _ (by rw [if_pos z])
    · rw [if_pos (fun y => z (e2.mp y))]; exact hj9 _ (by rw [if_neg z])
  · unfold szI at hj5
    by_cases z4 : kind = 4
    · rw [if_neg (fun y => y (e4.mpr z4)), show irm (Int32.ofNat it) 2 = Int32.ofNat (it % 2) from nn_rem (b := 2) (by omega) (by decide)]
      exact hj5 _ (by rw [if_pos z4]; exact nn_add 4 _)
    rw [if_pos (fun y => z4 (e4.mp y))]
    by_cases z2 : kind = 2
    · rw [if_neg (fun y => y (e2.mpr z2))]; exact hj5 _ (by rw [if_neg z4, if_pos z2])
    rw [if_pos (fun y => z2 (e2.mp y))]
    by_cases z5 : kind = 5
    · rw [if_neg (fun y => y (e5.mpr z5))]; exact hj5 _ (by rw [if_neg z4, if_neg z2, if_pos z5])
    rw [if_pos (fun y => z5 (e5.mp y))]; exact hj5 _ (by rw [if_neg z4, if_neg z2, if_neg z5])
  · unfold suI at hj2
    by_cases z5 : kind = 5
    · rw [if_neg (fun y => y (e5.mpr z5))]; exact hj2 _ (by rw [if_pos z5])
    rw [if_pos (fun y => z5 (e5.mp y))]
    by_cases z4 : kind = 4
    · rw [if_neg (fun y => y (e4.mpr z4)), show Int32.ofNat it / 2 = Int32.ofNat (it / 2) from nn_div (b := 2) (by omega) (by decide)]; exact hj2 _ (by rw [if_neg z5, if_pos z4])
    rw [if_pos (fun y => z4 (e4.mp y))]; exact hj2 _ (by rw [if_neg z5, if_neg z4])
theorem askOfCounts_c {w c i n len : Nat} {I : Nat → CI} {M : Mem} {deal mood : Int32} (ha : c + 3 ≤ w ∨ w + 12 ≤ c) (h : TXT M c n len I) (hi : i < n) (hk : 1 ≤ (I i).1 ∧ (I i).1 ≤ 5) (hW : WW M w deal mood) (hT : WTab M w I i deal mood) : So (FX10_askOfCounts w c (Int32.ofNat i) (Int32.ofNat (I i).1) M) (fun N => FtE w M N ∧ WW N w deal mood ∧ WTab N w I (i + 1) deal mood ∧ (∀ k, mI N w k = mI M w k) ∧ mR N w = mR M w) := by
  obtain ⟨f1, f2, f3, f4⟩ := fs_la (I i).1 (by omega)
  unfold FX10_askOfCounts
  refine So_jn0 ?_
  have i6 : inb (Int32.ofNat (I i).1) 6 = true := inb_nn (by omega) (by decide)
  rw [if_neg (show ¬ Int32.ofNat (I i).1 < 0 by rw [Int32.lt_iff_toInt_lt, nn_int (by omega), show (0 : Int32).toInt = 0 from rfl]; omega), if_pos (show Int32.ofNat (I i).1 < 6 from (nn_lt (b := 6) (by omega) (by omega)).mpr (by omega)), nn_ix (by omega), f1, f2]
  -- places below pl are done
  refine loop_for 3 (by decide) (fun pl N => FtE w M N ∧ WW N w deal mood ∧ (∀ k, mI N w k = mI M w k) ∧ mR N w = mR M w ∧ mJ N w = mJ M w ∧ mI N (w + 4) = mI M (w + 4) ∧ ∀ kind, 1 ≤ kind → kind ≤ 5 → ∀ q, q < 3 → ∀ it, fsI kind ≤ it → it < laI kind → mI N (w + 6 + kind) (13 * q + it) = cIt I (if q < pl then i + 1 else i) deal mood kind q it) M ⟨Eo.rf, hW, fun _ => rfl, rfl, rfl, rfl, fun kind k1 k2 q hq it i1 i2 => by rw [if_neg (by omega)]; exact hT.2.2 kind k1 k2 q hq it i1 i2⟩ (fun N rec hI' => ?_) (fun pl N rec hpl hI' hr => ?_)
  · obtain ⟨e1, e2, e3, e4, e5, e6, e7⟩ := hI'
    refine So.ite (fun _ => So.ok ⟨e1, e2, ⟨fun d hd => ?_, ?_, fun kind k1 k2 pl hp it i1 i2 => ?_⟩, e3, e4⟩) (fun hc => absurd hc (ge_self 3))
    · rw [e6, hT.1 d hd]; unfold vOf; rw [tel_no (by omega)]
    · rw [e5]; exact hT.2.1.congr (fun d hd => by unfold bOf; rw [tel_no (by omega)])
    · rw [e7 kind k1 k2 pl hp it i1 i2, if_pos hp]
  · obtain ⟨e1, e2, e3, e4, e5, e6, e7⟩ := hI'
    refine So.ite (fun hc => absurd hc (nle hpl (by decide))) (fun _ => ?_)
    refine So_jn1R (fun v => v = crI pl) (fun v8 hv8 => ?_) (fun j9 hj9 => ?_)
    rotate_left
    · unfold crI at hj9
      have z1 : (Int32.ofNat pl = 1) ↔ pl = 1 := nn_eq (b := 1) (by omega) (by omega)
      have z0 : (Int32.ofNat pl = 0) ↔ pl = 0 := nn_eq (b := 0) (by omega) (by omega)
      by_cases y1 : pl = 1
      · rw [if_neg (fun z => z (z1.mpr y1))]; exact hj9 _ (by rw [if_pos y1])
      rw [if_pos (fun z => y1 (z1.mp z))]
      by_cases y0 : pl = 0
      · rw [if_neg (fun z => z (z0.mpr y0))]; exact hj9 _ (by rw [if_neg y1, if_pos y0])
      rw [if_pos (fun z => y0 (z0.mp z))]; exact hj9 _ (by rw [if_neg y1, if_neg y0])
    subst hv8
    refine So.bindE (tell7 (t := w + 1) (k := 4) (by decide)) (So_gd i6 (So_nm ?_))
    generalize hM11 : sI N (w + 1 + 1) 4 (crI pl) = M11
    have E11 : Eo (fun q => q = w + 2) N M11 := by rw [← hM11]; exact Eo_sI (P := fun q => q = w + 2) rfl
    have w11 : ∀ k, mI M11 (w + 2) k = if k = 4 then crI pl else mI N (w + 2) k := fun k => by
      rw [← hM11, mI_sI]
      by_cases z : k = 4
      · rw [if_pos ⟨rfl, z⟩, if_pos z]
      · rw [if_neg (fun y => z y.2), if_neg z]
    -- the items
    refine So_wl2 (fun v K => ∃ it, fsI (I i).1 ≤ it ∧ it ≤ laI (I i).1 ∧ v = Int32.ofNat it ∧ FtE w M K ∧ (∀ k, k ≠ 1 → k ≠ 2 → k ≠ 3 → mI K (w + 2) k = mI M11 (w + 2) k) ∧ (∀ k, mI K w k = mI M w k) ∧ mR K w = mR M w ∧ mJ K w = mJ M w ∧ mI K (w + 4) = mI M (w + 4) ∧ ∀ kind, 1 ≤ kind → kind ≤ 5 → ∀ q, q < 3 → ∀ t', fsI kind ≤ t' → t' < laI kind → mI K (w + 6 + kind) (13 * q + t') = cIt I (if q < pl ∨ (q = pl ∧ kind = (I i).1 ∧ t' < it) then i + 1 else i) deal mood kind q t') (fun v _ => 13 - ix v) ?_ fuel _ M11 ⟨fsI (I i).1, Nat.le_refl _, f3, rfl, e1.tr (E11.up (fun a ha => by omega)), fun k _ _ _ => rfl, fun k => by rw [(E11 w (by omega)).1]; exact e3 k, by rw [(E11 w (by omega)).2.2.1]; exact e4, by rw [(E11 w (by omega)).2.1]; exact e5, by rw [(E11 (w + 4) (by omega)).1]; exact e6, fun kind k1 k2 q hq it i1 i2 => ?_⟩ (by unfold fuel; omega)
    rotate_left
    · rw [(E11 (w + 6 + kind) (by omega)).1, e7 kind k1 k2 q hq it i1 i2]
      by_cases z : q < pl
      · rw [if_pos z, if_pos (Or.inl z)]
      · rw [if_neg z, if_neg]
        rintro (y | ⟨_, rfl, y⟩)
        · exact z y
        · omega
    rintro v K rec2 ⟨it, t1, t2, rfl, g1, g2, g3, g4, g5, g6, g7⟩ hr2
    refine So_gd i6 ?_
    by_cases ce : it = laI (I i).1
    · rw [if_pos (by rw [ce]; exact Int32.le_refl _)]
      refine So_nm (hr K ⟨g1, ⟨?_, ?_, fun k k1 k2 => ?_⟩, g3, g4, g5, g6, fun kind k1 k2 q hq t' i1 i2 => ?_⟩)
      · rw [g2 0 (by decide) (by decide) (by decide), w11, if_neg (by decide)]; exact e2.1
      · rw [g2 5 (by decide) (by decide) (by decide), w11, if_neg (by decide)]; exact e2.2.1
      · rw [g2 k (by omega) (by omega) (by omega), w11, if_neg (by omega)]; exact e2.2.2 k k1 k2
      · rw [g7 kind k1 k2 q hq t' i1 i2]
        by_cases z : q < pl
        · rw [if_pos (Or.inl z), if_pos (by omega)]
        · by_cases z2 : q = pl
          · rw [if_pos (show q < pl + 1 by omega)]
            by_cases z3 : kind = (I i).1
            · rw [if_pos (Or.inr ⟨z2, z3, by rw [ce, ← z3]; exact i2⟩)]
            · rw [if_neg (by rintro (y | ⟨_, y, _⟩); exact z y; exact z3 y)]
              unfold cIt cOf; rw [tel_no (fun y => z3 y.symm)]
          · rw [if_neg (by omega), if_neg (by omega)]
    · rw [if_neg (nle (show it < laI (I i).1 by omega) (by omega))]
      refine So.bindE (tellItem_c hk (by omega)) ?_
      generalize hM20 : sI (sI (sI K (w + 2) 1 (rkI (I i).1 it)) (w + 2) 2 (suI (I i).1 it)) (w + 2) 3 (szI (I i).1 it) = M20
      have E20 : Eo (fun q => q = w + 2) K M20 := by rw [← hM20]; exact ((Eo_sI (P := fun q => q = w + 2) rfl).tr (Eo_sI rfl)).tr (Eo_sI rfl)
      have w20 : ∀ k, mI M20 (w + 2) k = if k = 3 then szI (I i).1 it else if k = 2 then suI (I i).1 it else if k = 1 then rkI (I i).1 it else mI K (w + 2) k := fun k => by
        rw [← hM20, mI_sI, mI_sI, mI_sI]
        by_cases z3 : k = 3
        · rw [if_pos ⟨rfl, z3⟩, if_pos z3]
        rw [if_neg (fun y => z3 y.2), if_neg z3]
        by_cases z2 : k = 2
        · rw [if_pos ⟨rfl, z2⟩, if_pos z2]
        rw [if_neg (fun y => z2 y.2), if_neg z2]
        by_cases z1 : k = 1
        · rw [if_pos ⟨rfl, z1⟩, if_pos z1]
        rw [if_neg (fun y => z1 y.2), if_neg z1]
      have F20 : FtE w M M20 := g1.tr (E20.up (fun a ha => by omega))
      have tx20 : TXT M20 c n len I := h.keep (F20 _ (by omega)) (F20 _ (by omega))
      have htl : tlD (mI M20 (w + 2)) = wE deal (rkI (I i).1 it) (suI (I i).1 it) (szI (I i).1 it) (crI pl) mood := by
        refine tl_wE (fun k hk => ?_)
        rw [w20]
        unfold wA
        obtain rfl | rfl | rfl | rfl | rfl | rfl | hk6 : k = 0 ∨ k = 1 ∨ k = 2 ∨ k = 3 ∨ k = 4 ∨ k = 5 ∨ 6 ≤ k := by omega
        · rw [if_neg (by decide), if_neg (by decide), if_neg (by decide), g2 0 (by decide) (by decide) (by decide), w11, if_neg (by decide), if_pos rfl]; exact e2.1
        · rfl
        · rfl
        · rfl
        · rw [if_neg (by decide), if_neg (by decide), if_neg (by decide), g2 4 (by decide) (by decide) (by decide), w11]; rfl
        · rw [if_neg (by decide), if_neg (by decide), if_neg (by decide), g2 5 (by decide) (by decide) (by decide), w11, if_neg (by decide)]; exact e2.2.1
        · rw [if_neg (by omega), if_neg (by omega), if_neg (by omega), g2 k (by omega) (by omega) (by omega), w11, if_neg (by omega), if_neg (by omega), if_neg (by omega), if_neg (by omega), if_neg (by omega), if_neg (by omega), if_neg (by omega)]; exact e2.2.2 k hk6 hk
      refine So_bdM (holds_c (w := w) ⟨by omega, by omega⟩ ⟨by omega, by omega⟩ tx20 hi) (fun r M21 h21 => So_jn1 ?_)
      rw [htl] at h21
      obtain ⟨s21, h21⟩ := h21
      have s21 : SmE (w + 1) M20 M21 := s21
      have F21 : FtE w M M21 := F20.tr s21.ft
      have x4 : mI M21 (w + 4) = mI M (w + 4) := ((s21.1 (w + 4) (by omega)).1.trans (E20 (w + 4) (by omega)).1).trans g6
      have xw : ∀ k, mI M21 w k = mI M w k := fun k => by rw [(s21.1 w (by omega)).1, (E20 w (by omega)).1]; exact g3 k
      have xj : mJ M21 w = mJ M w := ((s21.1 w (by omega)).2.1.trans (E20 w (by omega)).2.1).trans g5
      have xr : mR M21 w = mR M w := ((s21.1 w (by omega)).2.2.1.trans (E20 w (by omega)).2.2.1).trans g4
      have x2 : ∀ k, k ≠ 1 → k ≠ 2 → k ≠ 3 → mI M21 (w + 2) k = mI M11 (w + 2) k := fun k h1 h2 h3 => by rw [(s21.1 (w + 2) (by omega)).1, w20, if_neg h3, if_neg h2, if_neg h1]; exact g2 k h1 h2 h3
      have xq : ∀ q, 6 ≤ q → q < 12 → mI M21 (w + q) = mI K (w + q) := fun q h1 h2 => by rw [(s21.1 (w + q) (by omega)).1, (E20 (w + q) (by omega)).1]
      have same : ∀ kind q t', 1 ≤ kind → kind ≤ 5 → q < 3 → fsI kind ≤ t' → t' < laI kind → ((q = pl ∧ kind = (I i).1 ∧ t' = it) → cIt I (i + 1) deal mood kind q t' = cIt I i deal mood kind q t') → mI M21 (w + 6 + kind) (13 * q + t') = cIt I (if q < pl ∨ (q = pl ∧ kind = (I i).1 ∧ t' < it + 1) then i + 1 else i) deal mood kind q t' := fun kind q t' k1 k2 hq i1 i2 he => by
        rw [show w + 6 + kind = w + (6 + kind) by omega, xq (6 + kind) (by omega) (by omega), show w + (6 + kind) = w + 6 + kind by omega, g7 kind k1 k2 q hq t' i1 i2]
        by_cases z : q = pl ∧ kind = (I i).1 ∧ t' = it
        · rw [if_neg (by omega), if_pos (by omega), he z]
        · by_cases z2 : q < pl ∨ (q = pl ∧ kind = (I i).1 ∧ t' < it)
          · rw [if_pos z2, if_pos (by omega)]
          · rw [if_neg z2, if_neg (by omega)]
      have mm : 13 - ix (Int32.ofNat (it + 1)) < 13 - ix (Int32.ofNat it) := by rw [nn_ix (by omega), nn_ix (by omega)]; omega
      rcases h21 with ⟨v, q1, q2, q3⟩ | ⟨q1, q2⟩
      · have q2 : r = 1 := q2
        have q3 : mI M21 (w + 1) 2 = v.toInt32 := q3
        obtain ⟨b1, b2⟩ := hI_rg h hi q1
        rw [q2, if_neg (by decide), q3, within_eq b1 b2 (by decide)]
        have ei : Int32.ofNat pl * 13 + Int32.ofNat it = Int32.ofNat (13 * pl + it) := by
          rw [show (13 : Int32) = Int32.ofNat 13 from rfl, nn_mul, nn_add, Nat.mul_comm]
        rw [ei, nn_ix (by omega), show w + 5 + 1 + 1 * (I i).1 = w + 6 + (I i).1 by omega]
        refine So_gd i6 (So.bindE rfl (So_gd (inb_nn (by omega) (by decide)) (So_nm (So_nm ?_))))
        rw [s1]
        refine hr2 _ _ ⟨it + 1, by omega, by omega, rfl, F21.tr (Eo_sI (by omega)), fun k h1 h2 h3 => by rw [mI_sI, if_neg (by omega)]; exact x2 k h1 h2 h3, fun k => by rw [mI_sI, if_neg (by omega)]; exact xw k, xr, xj, by rw [(Ea_sI (by omega)).1]; exact x4, fun kind k1 k2 q hq t' i1 i2 => ?_⟩ mm
        by_cases z : q = pl ∧ kind = (I i).1 ∧ t' = it
        · obtain ⟨rfl, rfl, rfl⟩ := z
          rw [mI_sI, if_pos ⟨rfl, rfl⟩, if_pos (by omega)]
          unfold cIt cOf
          rw [tel_yes rfl q1, if_neg (by omega)]
        · rw [mI_sI, if_neg (fun y => z ?_)]
          · exact same kind q t' k1 k2 hq i1 i2 (fun y => absurd y z)
          · obtain ⟨y1, y2⟩ := y
            have hl2 := (fs_la kind (by omega)).2.2.2
            exact ⟨by omega, by omega, by omega⟩
      · have q2 : r = 0 := q2
        rw [q2, if_pos rfl]
        refine So_nm ?_
        rw [s1]
        refine hr2 _ _ ⟨it + 1, by omega, by omega, rfl, F21, x2, xw, xr, xj, x4, fun kind k1 k2 q hq t' i1 i2 => same kind q t' k1 k2 hq i1 i2 (fun z => ?_)⟩ mm
        obtain ⟨rfl, rfl, rfl⟩ := z
        unfold cIt cOf
        rw [tel_none q1]
