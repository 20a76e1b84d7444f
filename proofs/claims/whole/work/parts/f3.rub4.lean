/-! ===== rubbers ===== -/
theorem HR.low {M N : Mem} {h u : Nat} (x : HR M h u) (e : ∀ q, h ≤ q → q < h + 67 → Ea M N q) (e5 : ∀ k, k < 1952 → mI N (u + 5) k = mI M (u + 5) k) (e6 : mI N (u + 6) = mI M (u + 6)) (e8 : mI N u 8 = mI M u 8) : HR N h u := by
  obtain ⟨f, n, h1, h2, h3, h4, h5, h6⟩ := x
  have e0 := e h (by omega) (by omega)
  refine ⟨f, n, h1, h2, by rw [e0.1]; exact h3, by rw [e0.1]; exact h4, by rw [e8]; exact h5, fun i hi => ?_⟩
  obtain ⟨a1, a2, a3, a4⟩ := h6 i hi
  have hs : ∀ k, 8 ≤ k → k < 130 → snap N u i k = snap M u i k := fun k ka kb => by
    unfold snap
    exact e5 _ (by omega)
  have hm : (f + i) % 16 < 16 := Nat.mod_lt _ (by decide)
  rw [e6, (e (h + 2) (by omega) (by omega)).1]
  refine ⟨(a1.keep ?_ ?_ ?_ ?_).row hs, a2.row hs, a3, a4⟩ <;> exact e _ (by unfold hT; omega) (by unfold hT; omega)
theorem st_rubbers : St_rubbers Inv := by
  rintro t u T M p1 p2 ⟨Λ, h⟩
  have hu := h.1
  have hT := h.2.1
  have i1 : FX12_in p1.toInt64 0 1000000 = some (if 0 ≤ p1.toInt ∧ p1.toInt ≤ 1000000 then 1 else 0) := in_i p1 0 1000000
  have i2 : FX12_in p2.toInt64 1 20 = some (if 1 ≤ p2.toInt ∧ p2.toInt ≤ 20 then 1 else 0) := in_i p2 1 20
  have c1000 : (1000000 : Int32).toInt = 1000000 := rfl
  by_cases c1 : 0 ≤ p1.toInt ∧ p1.toInt ≤ 1000000
  rotate_left
  · refine st_ref (j := 0) h (by decide) ?_ ?_
    · unfold FX11_rubbers
      rw [jb]
      by_cases x : p1.toInt < 0
      · rw [if_pos (p_lt0.mpr x)]; rfl
      · rw [if_neg (fun q => x (p_lt0.mp q)), if_pos (p_gt.mpr (by rw [c1000]; omega))]; rfl
    · unfold FX12_rubbers
      rw [nmb, ob i1, if_neg c1, jb]; rfl
  have x1 : ¬ p1 < 0 := fun q => by have := p_lt0.mp q; omega
  have x1' : ¬ 1000000 < p1 := fun q => by have := p_gt.mp q; rw [c1000] at this; omega
  by_cases c2 : 1 ≤ p2.toInt ∧ p2.toInt ≤ 20
  rotate_left
  · refine st_ref (j := 0) h (by decide) ?_ ?_
    · unfold FX11_rubbers
      rw [jb, if_neg x1, if_neg x1']
      by_cases x : p2.toInt < 1
      · rw [if_pos (p_gt.mpr (by rw [show (1 : Int32).toInt = 1 from rfl]; exact x))]; rfl
      · rw [if_neg (fun q => x (by have := p_gt.mp q; rw [show (1 : Int32).toInt = 1 from rfl] at this; exact this)), if_neg (fun q => by rw [Int32.le_iff_toInt_le, show (20 : Int32).toInt = 20 from rfl] at q; omega)]; rfl
    · unfold FX12_rubbers
      rw [nmb, ob i1, if_pos c1, jb, if_neg (by decide), ob i2, if_neg c2]; rfl
  have x2 : ¬ p2 < 1 := fun q => by have := p_gt.mp q; rw [show (1 : Int32).toInt = 1 from rfl] at this; omega
  have x2' : p2 ≤ 20 := by rw [Int32.le_iff_toInt_le, show (20 : Int32).toInt = 20 from rfl]; omega
  obtain ⟨s, hs, rfl⟩ := p_rng (n := 1000000) c1 (by decide)
  obtain ⟨n, hn, rfl⟩ := p_rng (n := 20) ⟨by omega, c2.2⟩ (by decide)
  have hn1 : 1 ≤ n := by have := c2.1; rw [nn_int (by omega)] at this; omega
  obtain ⟨hTR, hTV, _⟩ := id h.2.2.1
  obtain ⟨nl, l1, l2, l3, l4, l5, l6⟩ := h.2.2.1.2.2.2.2.1
  obtain ⟨x, y1, y2, y3⟩ := SRl.law l1 l2 l6 l5
  rw [← l4] at y1
  have q7 : 5 ≤ (mI M (u + 2) 7).toInt ∧ (mI M (u + 2) 7).toInt ≤ 31 := h.2.2.1.2.2.2.2.2.2.2.2.2.2
  have hY : mI M (u + 2) 7 = Int32.ofNat (mI M (u + 2) 7).toInt.toNat := (nn_of (by omega)).symm
  have hY2 : (mI M (u + 2) 7).toInt.toNat ≤ 31 := by omega
  generalize (mI M (u + 2) 7).toInt.toNat = Y at hY hY2
  generalize hr0 : mI M (u + 2) = r0 at *
  generalize hF : rbF (LOf Λ x).2 (LOf Λ x).1 Y n r0 s = F
  obtain ⟨fV, fP⟩ := rbF_f (I := (LOf Λ x).2) (n := (LOf Λ x).1) (Y := Y) n r0 s hTV
  rw [hF] at fV fP
  obtain ⟨f16, f17⟩ := fV.p16
  obtain ⟨g16, g17⟩ := hTV.p16
  have hsum : ∀ R : Nat → Int32, TV R → (R 16 + R 17).toInt = (R 16).toInt + (R 17).toInt := fun R hR => by
    obtain ⟨a, b⟩ := hR.p16
    exact i_add (by omega) (by omega)
  have hv0 : 0 ≤ ((F 16 + F 17) - (r0 16 + r0 17)).toInt := by
    have a := hsum F fV
    have b := hsum r0 hTV
    have c := fP.1
    have d := fP.2
    rw [i_sub (by omega) (by omega)]; omega
  have e999 : ∀ R : Nat → Int32, ((999 : Int32) ≤ R 8) ↔ 999 ≤ (R 8).toInt := fun R => by rw [Int32.le_iff_toInt_le, show (999 : Int32).toInt = 999 from rfl]
  -- the class
  have cls : ∃ K, FX11_rubbers t (Int32.ofNat s) (Int32.ofNat n) M = some ((F 16 + F 17) - (r0 16 + r0 17), sI (sI (sI K (t + 276) 0 (F 16)) (t + 276) 1 (F 17)) t 16 0) ∧ InvL Λ t u T K ∧ mI K (u + 2) = r0 := by
    have run : So (FX11_rubbers t (Int32.ofNat s) (Int32.ofNat n) M) (fun z => ∃ K, z = ((F 16 + F 17) - (r0 16 + r0 17), sI (sI (sI K (t + 276) 0 (F 16)) (t + 276) 1 (F 17)) t 16 0) ∧ InvL Λ t u T K ∧ mI K (u + 2) = r0) := by
      unfold FX11_rubbers
      refine So_jn0 ?_
      rw [if_neg x1, if_neg x1', if_neg x2, if_pos x2']
      refine So.bind (copyT (b := t + 167) (p := t + 1 + 1) (by omega) hTR) (fun M8 h8 => So_nm ?_)
      obtain ⟨m1, m2⟩ := h8
      have i8 : InvL Λ t u T M8 := h.scr (m2.up (fun q hq => by omega))
      have r8 : mI M8 (u + 2) = r0 := by rw [(m2 (u + 2) (by omega)).1, hr0]
      have k16 : mI M8 (t + 167 + 2) 0 = r0 16 := m1.sc (by decide)
      have k17 : mI M8 (t + 167 + 2) 1 = r0 17 := m1.sc (by decide)
      rw [k16, k17]
      have xl : FX6_lawAt (t + 1) (mI M8 (t + 1) 8) M8 = some x := by
        rw [lawAt_eq (m2 (t + 1) (by omega)) (m2 (t + 1 + 7) (by omega)), (m2 (t + 1) (by omega)).1]; exact y1
      refine So_wl3 (fun v14 v15 K => ∃ k q R z, k + q = n ∧ v14 = Int32.ofNat z ∧ v15 = Int32.ofNat k ∧ InvL Λ t u T K ∧ mI K (u + 2) = r0 ∧ FX6_lawAt (t + 1) (mI K (t + 1) 8) K = some x ∧ TR K (t + 167) R ∧ TV R ∧ z ≤ 1000003 ∧ rbF (LOf Λ x).2 (LOf Λ x).1 Y q R z = F ∧ R 6 = r0 6 ∧ R 7 = r0 7) (fun _ v15 _ => n - ix v15) ?_ fuel _ 0 M8 ⟨0, n, r0, s, by omega, rfl, rfl, i8, r8, xl, m1, hTV, by omega, hF, rfl, rfl⟩ (by unfold fuel; omega)
      rintro v14 v15 K rec ⟨k, q, R, z, kq, rfl, rfl, a1, a2, a3, a4, a5, a6, a7, a8, a9⟩ hr
      have e12 : mI K (t + 167) 12 = R 8 := a4.2.2.2.2.2.2.2.2.2.2.2.1
      refine So_jn0C (R = F) (fun w => ?_) (fun j hj => ?_)
      · subst w
        have b16 : mI K (t + 167 + 2) 0 = R 16 := a4.sc (by decide)
        have b17 : mI K (t + 167 + 2) 1 = R 17 := a4.sc (by decide)
        rw [b16]
        refine So_nm ?_
        rw [mI_n1 (by omega), b17]
        refine So_nm ?_
        rw [mI_n1 (by omega), mI_n1 (by omega), b16, mI_n1 (by omega), mI_n1 (by omega), b17]
        exact So_bdE (grant_eq _ _ _) (So.ok ⟨K, rfl, a1, a2⟩)
      · rw [e12]
        by_cases w : q = 0
        · subst w
          rw [if_pos (by rw [show k = n by omega]; exact Int32.le_refl _)]
          exact hj a7
        obtain ⟨q, rfl⟩ : ∃ q', q = q' + 1 := ⟨q - 1, by omega⟩
        have a7 : (if 999 ≤ (R 8).toInt then R else rbF (LOf Λ x).2 (LOf Λ x).1 Y q (rubR (LOf Λ x).2 (LOf Λ x).1 Y R z) (dlS z 13).2) = F := a7
        rw [if_neg (nle (show k < n by omega) (by omega))]
        refine So.ite (fun y => hj ?_) (fun y => ?_)
        · rw [if_pos ((e999 R).mp y)] at a7; exact a7
        · have y : ¬ 999 ≤ (R 8).toInt := fun w => y ((e999 R).mpr w)
          rw [if_neg y] at a7
          obtain ⟨A1, A2, A3, b1, b2, b3, b4, b5, b6⟩ := rubber_cl (Y := Y) a1 a2 a3 a4 a5 (by omega) a6 a8 a9 (by rw [a9]; exact hY) hY2
          obtain ⟨c1, c2, _⟩ := rubR_f (I := (LOf Λ x).2) (n := (LOf Λ x).1) (Y := Y) (s := z) a5 (by omega)
          refine So_bdE b1 (So.bindE b2 (So.bindE b3 (So_nm ?_)))
          rw [s1]
          refine hr _ _ _ ⟨k + 1, q, _, _, by omega, rfl, rfl, b4, by rw [(b5 (u + 2) (by omega)).1, a2], ?_, b6, c1, dlS_seed a6 13, a7, by rw [c2 6 (by omega)]; exact a8, by rw [c2 7 (by omega)]; exact a9⟩ (by rw [nn_ix (by omega), nn_ix (by omega)]; omega)
          rw [lawAt_eq (b5 (t + 1) (by omega)) (b5 (t + 1 + 7) (by omega)), (b5 (t + 1) (by omega)).1]; exact a3
    obtain ⟨z, z1, K, rfl, z2, z3⟩ := run
    exact ⟨K, z1, z2, z3⟩
  obtain ⟨K, k1, k2, k3⟩ := cls
  generalize hM1 : sI (sI (sI K (t + 276) 0 (F 16)) (t + 276) 1 (F 17)) t 16 0 = M1 at k1
  have E1 : ∀ q, q ≠ t + 276 → q ≠ t → Ea K M1 q := fun q a b => by rw [← hM1]; (repeat (first | exact Ea.rf _ _ | refine Ea.tr ?_ (Ea_sI (by omega)) | refine Ea.tr ?_ (Ea_sJ (by omega))))
  have r1 : mI M1 (u + 2) = r0 := by rw [(E1 (u + 2) (by omega) (by omega)).1, k3]
  have z20 : mI M1 u 20 = 0 := by rw [(E1 u (by omega) (by omega)).1]; exact k2.2.2.2.2.2.2.2.2.2.2.2.2
  -- the reference
  have ref : So (FX12_rubbers u (Int32.ofNat s) (Int32.ofNat n) M1) (fun z => z.1 = (F 16 + F 17) - (r0 16 + r0 17) ∧ Eo (fun q => q = u ∨ q = u + 2 ∨ q = u + 5 ∨ q = u + 18 ∨ (u + 20 ≤ q ∧ q < u + 32) ∨ q = u + 41) M1 z.2 ∧ mI z.2 (u + 2) = r0 ∧ (∀ k, k < 1952 → mI z.2 (u + 5) k = mI M1 (u + 5) k) ∧ (∀ k, k ≠ 0 → k ≠ 1 → k ≠ 34 → k ≠ 38 → k ≠ 67 → mI z.2 u k = mI M1 u k) ∧ mI z.2 u 67 = 1 ∧ mI z.2 u 1 = 0 ∧ mI z.2 (u + 41) 0 = F 16 ∧ mI z.2 (u + 41) 1 = F 17) := by
    unfold FX12_rubbers
    refine So_nm ?_
    rw [ob i1, if_pos c1]
    refine So_jn0 ?_
    rw [if_neg (by decide), ob i2, if_pos c2, if_pos (by decide)]
    have r0' : mI (sI M1 u 0 0) (u + 2) = r0 := u0_row.trans r1
    refine So.bind (show So (FX12_keepAll u 16 (sI M1 u 0 0)) _ from keepAll_so (i := 16) (by decide)) (fun B8 h8 => So_nm (So_nm ?_))
    obtain ⟨e1, e2, e3⟩ := h8
    rw [r0'] at e2
    have rB8 : mI (sJ B8 u 50 (Int32.ofNat s).toInt64) (u + 2) = r0 := by show mI B8 (u + 2) = r0; rw [(e1 (u + 2) (by omega)).1, r0']
    rw [rB8]
    have u8 : ∀ k, k ≠ 0 → mI (sJ B8 u 50 (Int32.ofNat s).toInt64) u k = mI M1 u k := fun k hk => by
      show mI B8 u k = _
      rw [(e1 u (by omega)).1, mI_n2 hk]
    have EB : Eo (fun q => q = u ∨ q = u + 5) M1 (sJ B8 u 50 (Int32.ofNat s).toInt64) := ((Eo_sI (Or.inl rfl)).tr (e1.up (fun q hq => Or.inr hq))).tr (Eo_sJ (Or.inl rfl))
    have k5 : mI (sJ B8 u 50 (Int32.ofNat s).toInt64) (u + 5) = mI B8 (u + 5) := rfl
    have j50 : mJ (sJ B8 u 50 (Int32.ofNat s).toInt64) u 50 = Int64.ofNat s := by rw [mJ_e, i64_nn (by omega)]
    generalize sJ B8 u 50 (Int32.ofNat s).toInt64 = B9 at rB8 u8 EB k5 j50
    refine So_wl2 (fun v13 B => ∃ k q R z, k + q = n ∧ v13 = Int32.ofNat k ∧ RbE u B9 B ∧ mI B (u + 2) = R ∧ mJ B u 50 = Int64.ofNat z ∧ TV R ∧ z ≤ 1000003 ∧ rbF (LOf Λ x).2 (LOf Λ x).1 Y q R z = F) (fun v13 _ => n - ix v13) ?_ fuel 0 B9 ⟨0, n, r0, s, by omega, rfl, RbE.rf, rB8, j50, hTV, by omega, hF⟩ (by unfold fuel; omega)
    rintro v13 B rec ⟨k, q, R, z, kq, rfl, a1, a2, a3, a4, a5, a6⟩ hr
    have hout : ∀ k, k < 8 ∨ 130 ≤ k → R k = r0 k := fun k hk => by rw [← a2, a1.2.2 k hk, rB8]
    rw [a2]
    refine So_jn0C (R = F) (fun w => ?_) (fun j hj => ?_)
    · subst w
      refine So_nm (So_nm ?_)
      have c17 : mI (sI B (u + 41) 0 (R 16)) (u + 2) 17 = R 17 := by rw [mI_n1 (by omega), a2]
      rw [c17]
      refine So_nm (So_nm ?_)
      generalize hB28 : sI (sI (sI B (u + 41) 0 (R 16)) (u + 41) 1 (R 17)) u 67 1 = B28
      refine So.bind (show So (FX12_putBack u 16 B28) _ from putBack_so (i := 16) (by decide)) (fun B29 h29 => ?_)
      obtain ⟨o1, o2, o3⟩ := h29
      refine So_bdE (tell_pos hv0) (So.ok ?_)
      have EO : Eo (fun q => q = u ∨ q = u + 2 ∨ q = u + 5 ∨ q = u + 18 ∨ (u + 20 ≤ q ∧ q < u + 32) ∨ q = u + 41) M1 B28 := by
        rw [← hB28]
        exact ((((EB.up (fun q hq => by omega)).tr (a1.1.up (fun q hq => by omega))).tr (Eo_sI (by omega))).tr (Eo_sI (by omega))).tr (Eo_sI (by omega))
      have b5 : mI B28 (u + 5) = mI B8 (u + 5) := by
        rw [← hB28]
        funext k
        rw [mI_n1 (by omega), mI_n1 (by omega), mI_n1 (by omega), (a1.1 (u + 5) (by omega)).1, k5]
      have b41 : ∀ k, mI (sI B29 u 1 0) (u + 41) k = mI B28 (u + 41) k := fun k => by rw [mI_n1 (by omega), (o1 (u + 41) (by omega)).1]
      have bu : ∀ k, k ≠ 1 → mI (sI B29 u 1 0) u k = mI B28 u k := fun k hk => by rw [mI_n2 hk, (o1 u (by omega)).1]
      refine ⟨rfl, (EO.tr (o1.up (fun q hq => by omega))).tr (Eo_sI (by omega)), ?_, fun k hk => ?_, fun k k0 k1 k34 k38 k67 => ?_, ?_, mI_e, ?_, ?_⟩
      · funext k
        show mI (sI B29 u 1 0) (u + 2) k = r0 k
        rw [mI_n1 (by omega)]
        by_cases w : k < 8 ∨ 130 ≤ k
        · rw [o3 k w, ← hB28, mI_n1 (by omega), mI_n1 (by omega), mI_n1 (by omega), a2]; exact hout k w
        · obtain ⟨j, rfl⟩ : ∃ j, k = 8 + j := ⟨k - 8, by omega⟩
          rw [o2 j (by omega), b5, e2 j (by omega)]
      · show mI (sI B29 u 1 0) (u + 5) k = _
        rw [mI_n1 (by omega), (o1 (u + 5) (by omega)).1, b5, e3 k (by omega), mI_n1 (by omega)]
      · show mI (sI B29 u 1 0) u k = _
        rw [bu k k1, ← hB28, mI_n2 k67, mI_n1 (by omega), mI_n1 (by omega), a1.2.1 k k34 k38, u8 k k0]
      · show mI (sI B29 u 1 0) u 67 = _
        rw [bu 67 (by decide), ← hB28, mI_e]
      · show mI (sI B29 u 1 0) (u + 41) 0 = _
        rw [b41, ← hB28, mI_n1 (by omega), mI_n2 (by decide), mI_e]
      · show mI (sI B29 u 1 0) (u + 41) 1 = _
        rw [b41, ← hB28, mI_n1 (by omega), mI_e]
    · by_cases w : q = 0
      · subst w
        rw [if_pos (by rw [show k = n by omega]; exact Int32.le_refl _)]
        exact hj a6
      obtain ⟨q, rfl⟩ : ∃ q', q = q' + 1 := ⟨q - 1, by omega⟩
      have a6 : (if 999 ≤ (R 8).toInt then R else rbF (LOf Λ x).2 (LOf Λ x).1 Y q (rubR (LOf Λ x).2 (LOf Λ x).1 Y R z) (dlS z 13).2) = F := a6
      rw [if_neg (nle (show k < n by omega) (by omega))]
      refine So.ite (fun y => hj ?_) (fun y => ?_)
      · rw [if_pos ((e999 R).mp y)] at a6; exact a6
      · have y : ¬ 999 ≤ (R 8).toInt := fun w => y ((e999 R).mpr w)
        rw [if_neg y] at a6
        have hLw : LwI R (R 2) (LOf Λ x).1 (LOf Λ x).2 := by
          rw [hout 2 (by omega)]
          rcases y3 with w | ⟨i, len, w1, w2, w3⟩
          · exact Or.inl w
          · exact Or.inr ⟨i, len, w1, w2, w3.row (fun k _ _ => hout k (by omega))⟩
        obtain ⟨B1, B2, B3, B4, v, B5, b1, b2, b3, b4, b5, b6, b7, b8⟩ := rubber_r (Y := Y) a2 hLw (by rw [a1.2.1 20 (by decide) (by decide), u8 20 (by decide)]; exact z20) a4 (by omega) a5 a3 (by rw [hout 7 (by omega)]; exact hY) hY2
        obtain ⟨c1, c2, _⟩ := rubR_f (I := (LOf Λ x).2) (n := (LOf Λ x).1) (Y := Y) (s := z) a4 (by omega)
        refine So.bindE b1 (So.bindE b2 (So.bindE b3 (So.bindE b4 (So_bdE b5 (So_nm ?_)))))
        rw [s1]
        exact hr _ _ ⟨k + 1, q, _, _, by omega, rfl, a1.tr b6, b7, b8, c1, dlS_seed a5 13, a6⟩ (by rw [nn_ix (by omega), nn_ix (by omega)]; omega)
  obtain ⟨⟨v, N⟩, o1, o2, o3, o4, o5, o6, o7, o8, o9, o10⟩ := ref
  have o2 : v = _ := o2
  have o3 : Eo (fun q => q = u ∨ q = u + 2 ∨ q = u + 5 ∨ q = u + 18 ∨ (u + 20 ≤ q ∧ q < u + 32) ∨ q = u + 41) M1 N := o3
  have o4 : mI N (u + 2) = r0 := o4
  have o5 : ∀ k, k < 1952 → mI N (u + 5) k = mI M1 (u + 5) k := o5
  have o6 : ∀ k, k ≠ 0 → k ≠ 1 → k ≠ 34 → k ≠ 38 → k ≠ 67 → mI N u k = mI M1 u k := o6
  have o7 : mI N u 67 = 1 := o7
  have o8 : mI N u 1 = 0 := o8
  have o9 : mI N (u + 41) 0 = F 16 := o9
  have o10 : mI N (u + 41) 1 = F 17 := o10
  refine ⟨_, M1, N, k1, by rw [o1, o2], Λ, ?_⟩
  have EN : ∀ q, q ≠ t + 276 → q ≠ t → ¬ (q = u ∨ q = u + 2 ∨ q = u + 5 ∨ q = u + 18 ∨ (u + 20 ≤ q ∧ q < u + 32) ∨ q = u + 41) → Ea K N q := fun q a b c => (E1 q a b).tr (o3 q c)
  have uN : ∀ k, k ≠ 0 → k ≠ 1 → k ≠ 34 → k ≠ 38 → k ≠ 67 → mI N u k = mI K u k := fun k a b c d e => by rw [o6 k a b c d e, (E1 u (by omega) (by omega)).1]
  have hS : SR Λ N (u + 42) T (t + 1) (mI N (u + 2)) := by
    have := k2.2.2.1
    rw [k3] at this
    rw [o4]
    exact this.keep (fun q a b => EN q (by omega) (by omega) (by omega)) (fun q a b => EN q (by omega) (by omega) (by omega)) (Nat.le_refl _)
  have hH : HR N (t + 29) u := k2.2.2.2.2.1.low (fun q a b => EN q (by omega) (by omega) (by omega)) (fun k hk => by rw [o5 k hk, (E1 (u + 5) (by omega) (by omega)).1]) (EN _ (by omega) (by omega) (by omega)).1 (uN 8 (by decide) (by decide) (by decide) (by decide) (by decide))
  obtain ⟨m1, m2, m3, m4, m5, m6⟩ := k2.2.2.2.2.2.2.1
  have tN : ∀ k, mI N t k = mI M1 t k := fun k => by rw [(o3 t (by omega)).1]
  have tM : ∀ k, k ≠ 16 → mI M1 t k = mI K t k := fun k hk => by rw [← hM1, mI_n2 hk, mI_n1 (by omega), mI_n1 (by omega)]
  refine k2.upd hS hH ⟨?_, ?_, ?_, ?_, fun j hj => ?_, Or.inr ⟨o7, ?_, ?_⟩⟩ (fun q hq => EN q (by unfold UsedC at hq; omega) (by unfold UsedC at hq; omega) (by unfold UsedC at hq; omega)) ?_ ?_ ?_
  · rw [tN, o8, ← hM1, mI_e]
  · rw [tN, tM 17 (by decide), uN 11 (by decide) (by decide) (by decide) (by decide) (by decide)]; exact m2
  · rw [tN, tM 18 (by decide), uN 64 (by decide) (by decide) (by decide) (by decide) (by decide)]; exact m3
  · rw [(EN (t + 171) (by omega) (by omega) (by omega)).1, uN 18 (by decide) (by decide) (by decide) (by decide) (by decide)]; exact m4
  · rw [(EN (t + 275) (by omega) (by omega) (by omega)).1, (EN (u + 1) (by omega) (by omega) (by omega)).1]; exact m5 j hj
  · rw [(o3 (t + 276) (by omega)).1, o9, ← hM1, mI_n1 (by omega), mI_n2 (by decide), mI_e]
  · rw [(o3 (t + 276) (by omega)).1, o10, ← hM1, mI_n1 (by omega), mI_e]
  · rw [(EN (t + 171) (by omega) (by omega) (by omega)).1]
  · exact uN 13 (by decide) (by decide) (by decide) (by decide) (by decide)
  · exact uN 20 (by decide) (by decide) (by decide) (by decide) (by decide)
