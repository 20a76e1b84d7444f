/-! ===== a text of orders is run, on both sides ===== -/
def clsG (t : Nat) (M17 : Mem) : Option (Int32 × Mem) := (FX7_told (t + 176) 1 M17).bind fun r23 => bdM (FX11_grant t r23 M17) fun r25 M24 => some (r25, M24)
def clsZ (t : Nat) (v16 : Int32) (M28 : Mem) : Option (Int32 × Mem) := nm (sI M28 t 18 v16) fun M31 => (FX8_copyFrom ((t + 1) + 1) (t + 163) M31).bind fun M35 => (FX4_copyFrom (t + 29) (t + 96) M35).bind fun M38 => bdM (FX11_refuse t (-3) M38) fun r40 M39 => some (r40, M39)
def clsO (t : Nat) (M3 : Mem) : Option (Int32 × Mem) := (FX8_copyFrom (t + 163) ((t + 1) + 1) M3).bind fun M8 => (FX4_copyFrom (t + 96) (t + 29) M8).bind fun M11 => (FX7_tell (t + 176) 1 0 M11).bind fun M13 => (FX7_tell (t + 176) 2 (-1) M13).bind fun M15 => wl2 (clsN t (clsG t) (clsZ t)) fuel 0 M15
theorem orders_c {t : Nat} {M : Mem} : FX11_orders t M = nm (sI M t 18 (-1)) fun M1 => bdM (FX5_readText (t + 171) 0 M1) fun r4 M3 => if ¬ r4 = 0 then clsO t M3 else bdM (FX11_refuse t (-6) M3) fun r42 M41 => some (r42, M41) := rfl
def refG (u : Nat) (M24 : Mem) : Option (Int32 × Mem) := bdM (FX12_tell u (mI M24 u 62) M24) fun r28 M27 => some (r28, M27)
def refZ (u : Nat) (v12 v23 : Int32) (M36 : Mem) : Option (Int32 × Mem) := (FX12_giveBack u v12 M36).bind fun M39 => nm (sI M39 u 64 v23) fun M40 => bdM (FX12_tell u (-3) M40) fun r42 M41 => some (r42, M41)
def refO (u : Nat) (M10 : Mem) : Option (Int32 × Mem) := (FX12_keepAll u 17 M10).bind fun M11 => nm (mI M11 u 8) fun v12 => wl2 (fun (v13 : Int32) (M14 : Mem) rec15 => if 1952 ≤ v13 then wl2 (fun (v17 : Int32) (M18 : Mem) rec19 => if 16 ≤ v17 then nm (sI M18 u 62 0) (fun M21 => nm (sI M21 u 63 (-1)) fun M22 => wl2 (refN u (refG u) (refZ u v12)) fuel 0 M22) else gd (inb v17 16) <| gd (inb v17 16) <| nm (sI M18 (u + 8) (ix v17) (mI M18 (u + 6) (ix v17))) fun M46 => nm (v17 + 1) fun v48 => rec19 v48 M46) fuel 0 M14 else gd (inb v13 2196) <| gd (inb v13 1952) <| nm (sI M14 (u + 7) (ix v13) (mI M14 (u + 5) (ix v13))) fun M52 => nm (v13 + 1) fun v54 => rec15 v54 M52) fuel 0 M11
def ordE (u : Nat) (M5 : Mem) : Option (Int32 × Mem) := (FX12_endText u M5).bind fun M10 => if (mI M10 u 19) = 0 then refO u M10 else bdM (FX12_tell u (-6) M10) fun r56 M55 => some (r56, M55)
theorem orders_r {u : Nat} {M : Mem} : FX12_orders u M = nm (sI M u 0 0) fun M1 => nm (sI M1 u 64 (-1)) fun M2 => (FX12_beginText u 1 M2).bind fun M3 => (FX12_readOrder u M3).bind fun M4 => wl1 (ordStep u (ordE u)) fuel M4 := rfl
theorem JT.refB {Λ : Lam} {t u T : Nat} {A B B' : Mem} (h : JT Λ t u T A B) (e2 : mI B' (u + 2) = mI B (u + 2)) (e5 : ∀ k, k < 1952 → mI B' (u + 5) k = mI B (u + 5) k) (e6 : ∀ k, k < 16 → mI B' (u + 6) k = mI B (u + 6) k) (e8 : mI B' u 8 = mI B u 8) (e20 : mI B' u 20 = mI B u 20) : JT Λ t u T A B' := by
  obtain ⟨h1, h2, h3, h4, h5, h6⟩ := h
  exact ⟨h1, h2, by rw [e2]; exact h3, h4.keepB (fun q _ _ => Ea.rf _ _) e5 e6 e8, h5, by rw [e20]; exact h6⟩
/-- what running a text of orders changes -/
def OC2 (t q : Nat) : Prop := OC t q ∨ q = t ∨ (t + 96 ≤ q ∧ q < t + 167) ∨ q = t + 275
def OR2 (u q : Nat) : Prop := OR u q ∨ q = u + 1 ∨ q = u + 7 ∨ q = u + 8
def OPost (Λ : Lam) (t u T : Nat) (A A' B W : Mem) : Prop := JT Λ t u T A' W ∧ Eo (OC2 t) A A' ∧ Eo (OR2 u) B W ∧ (∀ k, k ≠ 16 → k ≠ 18 → mI A' t k = mI A t k) ∧ mI A' t 16 = mI W u 1 ∧ (mI A t 18 = mI B u 64 → mI A' t 18 = mI W u 64) ∧ (∀ k, k ∉ ([1, 8, 20, 34, 38, 62, 63, 64, 65] : List Nat) → mI W u k = mI B u k) ∧ ((∀ i, i < 5 → mI A (t + 275) i = mI B (u + 1) (rfJ i)) → ∀ i, i < 5 → mI A' (t + 275) i = mI W (u + 1) (rfJ i))
theorem ords {Λ : Lam} {t u T n len lr : Nat} {I : Nat → CI} {A B : Mem} (hJ : JT Λ t u T A B) (hX : TXT A (t + 173) n len I) (hl : lr ≤ 400) (hO : TxO (mI B (u + 11)) (mI B (u + 12)) (mI B (u + 40)) lr n I) (hK : KOk n I) (h3 : mI A (t + 173) 3 = Int32.ofNat n) (h21 : mI B u 21 = Int32.ofNat n) : ∃ v A' W, clsO t A = some (v, A') ∧ refO u B = some (v, W) ∧ OPost Λ t u T A A' B W := by
  have hu := hJ.1
  have hT := hJ.2.1
  have hfu : fuel = 1000000 := rfl
  have hn12 := hK.1
  -- the class puts aside
  obtain ⟨A8, a8, tr8, e8⟩ := copyT (b := t + 163) (p := t + 1 + 1) (by omega) hJ.2.2.1.1
  have J8 : JT Λ t u T A8 B := hJ.cls (fun q hq => e8 q (by omega))
  obtain ⟨A11, a11, hr11, e11⟩ := hcopy_so (h := t + 29) (h' := t + 96) (by omega) J8.2.2.2.1
  have J11 : JT Λ t u T A11 B := J8.cls (fun q hq => e11 q (by omega))
  have tr11 : TR A11 (t + 163) (mI B (u + 2)) := tr8.keep (e11 _ (by omega)) (e11 _ (by omega)) (e11 _ (by omega)) (e11 _ (by omega))
  generalize hA15 : sI (sI A11 (t + 176 + 1) 1 0) (t + 176 + 1) 2 (-1) = A15
  have e15 : Eo (fun q => q = t + 177) A11 A15 := by rw [← hA15]; exact (Eo_sI (P := fun q => q = t + 177) rfl).tr (Eo_sI rfl)
  have J15 : JT Λ t u T A15 B := J11.cls (fun q hq => e15 q (by omega))
  have E15 : Eo (fun q => q = t + 177 ∨ (t + 96 ≤ q ∧ q < t + 167)) A A15 := ((e8.up (fun q hq => by omega)).tr (e11.up (fun q hq => by omega))).tr (e15.up (fun q hq => by omega))
  have X15 : TXT A15 (t + 173) n len I := hX.keep (E15 _ (by omega)) (E15 _ (by omega))
  have cO : clsO t A = wl2 (clsN t (clsG t) (clsZ t)) fuel (Int32.ofNat 0) A15 := by
    unfold clsO
    rw [ob a8, ob a11, ob (show FX7_tell (t + 176) 1 0 A11 = _ from tell7 (t := t + 176) (k := 1) (by decide)), ob (show FX7_tell (t + 176) 2 (-1) _ = _ from tell7 (t := t + 176) (k := 2) (by decide)), hA15]
    rfl
  -- the reference puts aside
  obtain ⟨B11, b11, f1, f2, f3⟩ := keepAll_so (u := u) (i := 17) (M := B) (by decide)
  have b11 : FX12_keepAll u 17 B = some B11 := b11
  have sv := saveL (τ := Int32 × Mem) (u := u) (M := B11) (k := fun M18 => nm (sI M18 u 62 0) fun M21 => nm (sI M21 u 63 (-1)) fun M22 => wl2 (refN u (refG u) (refZ u (mI B11 u 8))) fuel 0 M22) (Q := fun r => ∃ B18, Eo (fun q => q = u + 7 ∨ q = u + 8) B11 B18 ∧ (∀ j, j < 1952 → mI B18 (u + 7) j = mI B11 (u + 5) j) ∧ (∀ j, j < 16 → mI B18 (u + 8) j = mI B11 (u + 6) j) ∧ wl2 (refN u (refG u) (refZ u (mI B11 u 8))) fuel (Int32.ofNat 0) (sI (sI B18 u 62 0) u 63 (-1)) = some r ∧ ∃ v A' W, clsO t A = some (v, A') ∧ r = (v, W) ∧ OPost Λ t u T A A' B W) ?_
  · obtain ⟨r, hr, B18, g1, g2, g3, g4, v, A', W, q1, q2, q3⟩ := sv
    refine ⟨v, A', W, q1, ?_, q3⟩
    unfold refO
    rw [ob b11, nmb, ← q2]
    exact hr
  · intro B18 g1 g2 g3
    have v12 : mI B11 u 8 = mI B u 8 := by rw [(f1 u (by omega)).1]
    rw [v12]
    rw [nmb, nmb]
    generalize hB22 : sI (sI B18 u 62 0) u 63 (-1) = B22
    have e22 : Eo (fun q => q = u) B18 B22 := by rw [← hB22]; exact (Eo_sI (P := fun q => q = u) rfl).tr (Eo_sI rfl)
    have u22 : ∀ k, k ≠ 62 → k ≠ 63 → mI B22 u k = mI B u k := fun k a b => by rw [← hB22, mI_n2 b, mI_n2 a, (g1 u (by omega)).1, (f1 u (by omega)).1]
    have E22 : ∀ q, q ≠ u → q ≠ u + 5 → q ≠ u + 7 → q ≠ u + 8 → Ea B B22 q := fun q a b c d => ((f1 q b).tr (g1 q (by omega))).tr (e22 q a)
    have c5 : ∀ k, mI B22 (u + 5) k = mI B11 (u + 5) k := fun k => by rw [(e22 (u + 5) (by omega)).1, (g1 (u + 5) (by omega)).1]
    have r22 : mI B22 (u + 2) = mI B (u + 2) := (E22 (u + 2) (by omega) (by omega) (by omega) (by omega)).1
    have J22 : JT Λ t u T A15 B22 := J15.refB r22 (fun k hk => by rw [c5, f3 k (by omega)]) (fun k _ => by rw [(E22 (u + 6) (by omega) (by omega) (by omega) (by omega)).1]) (u22 8 (by decide) (by decide)) (u22 20 (by decide) (by decide))
    have h0 : OT Λ t u T n len lr I A15 B22 0 := by
      refine ⟨J22, X15, hl, ?_, ?_, ?_, ?_⟩
      · rw [(E22 (u + 11) (by omega) (by omega) (by omega) (by omega)).1, (E22 (u + 12) (by omega) (by omega) (by omega) (by omega)).1, (E22 (u + 40) (by omega) (by omega) (by omega) (by omega)).1]; exact hO
      · rw [← hA15, mI_n2 (by decide), mI_e]; rfl
      · rw [← hB22, mI_n2 (by decide), mI_e]; rfl
      · rw [← hA15, ← hB22, mI_e, mI_e]
    obtain ⟨A2, B2, hF, ho⟩ := clauses_run hK n 0 0 A15 B22 fuel fuel (by omega) (by omega) (by omega) h0 (by omega) (by rw [(E15 (t + 173) (by omega)).1]; exact h3) (by rw [u22 21 (by decide) (by decide)]; exact h21)
    have FA : Eo (OC2 t) A A2 := (E15.up (fun q hq => by unfold OC2 OC; omega)).tr (hF.1.up (fun q hq => Or.inl hq))
    have FB : Eo (OR2 u) B B2 := (show Eo (OR2 u) B B22 from fun q hq => E22 q (by unfold OR2 OR RAc at hq; omega) (by unfold OR2 OR RAc at hq; omega) (by unfold OR2 OR RAc at hq; omega) (by unfold OR2 OR RAc at hq; omega)).tr (hF.2.1.up (fun q hq => Or.inl hq))
    have uB : ∀ k, k ∉ ([8, 20, 34, 38, 62, 63, 65] : List Nat) → mI B2 u k = mI B u k := fun k hk => by
      rw [hF.2.2.1 k hk, u22 k (fun z => hk (by rw [z]; decide)) (fun z => hk (by rw [z]; decide))]
    have tA : ∀ k, mI A2 t k = mI A t k := fun k => by rw [(hF.1 t (by unfold OC CAc; omega)).1, (E15 t (by omega)).1]
    have a275 : mI A2 (t + 275) = mI A (t + 275) := by rw [(hF.1 (t + 275) (by unfold OC CAc; omega)).1, (E15 (t + 275) (by omega)).1]
    have b1 : mI B2 (u + 1) = mI B (u + 1) := by rw [(hF.2.1 (u + 1) (by unfold OR RAc; omega)).1, (E22 (u + 1) (by omega) (by omega) (by omega) (by omega)).1]
    rcases ho with ⟨d, hd, hOT, x1, x2⟩ | ⟨c, hc, hJ2, x1, x2⟩
    · -- all was run
      obtain ⟨j2, _, _, _, k1, k2, _⟩ := hOT
      have dpos : 0 ≤ (Int32.ofNat d).toInt := by rw [nn_int (by omega)]; omega
      have cg : clsO t A = some (Int32.ofNat d, sI A2 t 16 0) := by
        rw [cO, x1]
        unfold clsG
        rw [ob (told7 _ _ _), show tlD (mI A2 (t + 176 + 1)) 1 = Int32.ofNat d from k1, bo (grant_eq _ _ _)]
      have rg : wl2 (refN u (refG u) (refZ u (mI B u 8))) fuel (Int32.ofNat 0) B22 = some (Int32.ofNat d, sI B2 u 1 0) := by
        rw [x2]
        unfold refG
        rw [k2, bo (tell_pos dpos)]
      refine ⟨(Int32.ofNat d, sI B2 u 1 0), rg, B18, g1, g2, g3, by rw [hB22]; exact rg, _, _, _, cg, rfl, ?_⟩
      have ec : Eo (fun q => q = t) A2 (sI A2 t 16 0) := Eo_sI rfl
      refine ⟨(j2.cls (fun q hq => ec q (by omega))).ref (by rw [(Ea_sI (by omega)).1]) (by rw [(Ea_sI (by omega)).1]) (by rw [(Ea_sI (by omega)).1]) (mI_n2 (by decide)) (mI_n2 (by decide)), FA.tr (ec.up (fun q hq => by unfold OC2; omega)), FB.tr (Eo_sI (by unfold OR2 OR RAc; omega)), fun k a b => by rw [mI_n2 a]; exact tA k, by rw [mI_e, mI_e], fun z => ?_, fun k hk => ?_, fun z i hi => ?_⟩
      · rw [mI_n2 (by decide), mI_n2 (by decide), tA, uB 64 (by decide)]; exact z
      · rw [mI_n2 (fun z => hk (by rw [z]; decide))]
        exact uB k (fun z => hk (by simp only [List.mem_cons, List.not_mem_nil, or_false] at z ⊢; omega))
      · rw [mI_n1 (by omega), mI_n1 (by omega), a275, b1]; exact z i hi
    · -- one could not be
      have lowA : ∀ q, (t + 96 ≤ q ∧ q < t + 167) → Ea A15 A2 q := fun q hq => hF.1 q (by unfold OC CAc; omega)
      have l11 : ∀ q, (t + 96 ≤ q ∧ q < t + 167) → Ea A11 A2 q := fun q hq => (e15 q (by omega)).tr (lowA q hq)
      generalize hA3 : sI A2 t 18 (Int32.ofNat c) = A3
      have e3 : Eo (fun q => q = t) A2 A3 := by rw [← hA3]; exact Eo_sI rfl
      have l3 : ∀ q, (t + 96 ≤ q ∧ q < t + 167) → Ea A11 A3 q := fun q hq => (l11 q hq).tr (e3 q (by omega))
      have tr3 : TR A3 (t + 163) (mI B (u + 2)) := tr11.keep (l3 _ (by omega)) (l3 _ (by omega)) (l3 _ (by omega)) (l3 _ (by omega))
      obtain ⟨A4, a4, tr4, e4⟩ := copyT (b := t + 1 + 1) (p := t + 163) (by omega) tr3
      have hr4 : HR2 A4 B (t + 96) u := hr11.keep (fun q a b => (l3 q (by omega)).tr (e4 q (by omega))) rfl rfl rfl
      obtain ⟨A5, a5, hr5, e5⟩ := hcopy_so (h := t + 96) (h' := t + 29) (by omega) hr4
      have cg : clsO t A = some (-3, RfM t 2 A5) := by
        rw [cO, x1]
        unfold clsZ
        rw [nmb, hA3, ob a4, ob a5, bo (refuse_eq (j := 2) (c := -3) (by decide) rfl)]; rfl
      obtain ⟨B5, b5, y1, y2, y3, y4, y5, y6, y7, y8⟩ := giveBack_so (u := u) (v := mI B u 8) (M := B2)
      generalize hB6 : sI B5 u 64 (Int32.ofNat c) = B6
      have e6 : Eo (fun q => q = u) B5 B6 := by rw [← hB6]; exact Eo_sI rfl
      have rg : wl2 (refN u (refG u) (refZ u (mI B u 8))) fuel (Int32.ofNat 0) B22 = some (-3, sI (sI B6 u 1 (-3)) (u + 1) 3 (mI B6 (u + 1) 3 + 1)) := by
        rw [x2]
        unfold refZ
        rw [ob b5, nmb, hB6, bo (tell_neg (k := 3) (by decide) (by decide) (by decide))]
      generalize hW : sI (sI B6 u 1 (-3)) (u + 1) 3 (mI B6 (u + 1) 3 + 1) = W at rg
      have eW : Eo (fun q => q = u ∨ q = u + 1) B6 W := by rw [← hW]; exact (Eo_sI (Or.inl rfl)).tr (Eo_sI (Or.inr rfl))
      have uW : ∀ k, k ≠ 1 → k ≠ 64 → mI W u k = mI B5 u k := fun k a b => by rw [← hW, mI_n1 (by omega), mI_n2 a, ← hB6, mI_n2 b]
      have EW : ∀ q, q ≠ u → q ≠ u + 1 → Ea B5 W q := fun q a b => (e6 q a).tr (eW q (by omega))
      -- the row is as it was
      have row5 : mI B5 (u + 2) = mI B (u + 2) := by
        funext k
        by_cases z : k < 8 ∨ 130 ≤ k
        · rw [y5 k z, hF.2.2.2.1 k z, r22]
        · obtain ⟨j, rfl⟩ : ∃ j, k = 8 + j := ⟨k - 8, by omega⟩
          rw [y4 j (by omega), hF.2.2.2.2 _ (by omega), c5, f2 j (by omega)]
      have five : ∀ k, k < 1952 → mI B5 (u + 5) k = mI B (u + 5) k := fun k hk => by
        rw [y6 k hk, (hF.2.1 (u + 7) (by unfold OR RAc; omega)).1, (e22 (u + 7) (by omega)).1, g2 k hk, f3 k (by omega)]
      have six : ∀ k, k < 16 → mI B5 (u + 6) k = mI B (u + 6) k := fun k hk => by
        rw [y8 k hk, (hF.2.1 (u + 8) (by unfold OR RAc; omega)).1, (e22 (u + 8) (by omega)).1, g3 k hk, (f1 (u + 6) (by omega)).1]
      have eA5 : Eo (fun q => q = t ∨ (t + 2 ≤ q ∧ q < t + 6) ∨ (t + 29 ≤ q ∧ q < t + 96)) A2 A5 := ((e3.up (fun q hq => by omega)).tr (e4.up (fun q hq => by omega))).tr (e5.up (fun q hq => by omega))
      have eR : Eo (fun q => q = t ∨ q = t + 275) A5 (RfM t 2 A5) := by unfold RfM; exact (Eo_sI (Or.inl rfl)).tr (Eo_sI (Or.inr rfl))
      have AA : ∀ q, (q = t + 1 ∨ (t + 6 ≤ q ∧ q < t + 10) ∨ (u + 42 ≤ q ∧ q < T)) → Ea A A5 q := fun q hq => ((E15 q (by omega)).tr (hF.1 q (by unfold OC CAc; omega))).tr (eA5 q (by omega))
      have JW : JT Λ t u T (RfM t 2 A5) W := by
        have j5 : JT Λ t u T A5 B5 := by
          refine ⟨hu, hT, ?_, hr5.keepB (fun q _ _ => Ea.rf _ _) five six y3, hJ2.2.2.2.2.1.keep (fun q a b => eA5 q (by omega)) (fun q a b => eA5 q (by omega)) (Nat.le_refl _), ?_⟩
          · rw [row5]
            refine hJ.2.2.1.tab (fun q hq => AA q (by omega)) (fun q a b => AA q (by omega)) (fun _ _ => rfl) (tr4.keep (e5 _ (by omega)) (e5 _ (by omega)) (e5 _ (by omega)) (e5 _ (by omega))) hJ.2.2.1.2.1
          · rw [y2 20 (by decide)]; exact hJ2.2.2.2.2.2
        exact (j5.cls (fun q hq => eR q (by omega))).ref (EW _ (by omega) (by omega)).1 (EW _ (by omega) (by omega)).1 (EW _ (by omega) (by omega)).1 (uW 8 (by decide) (by decide)) (uW 20 (by decide) (by decide))
      refine ⟨(-3, W), rg, B18, g1, g2, g3, by rw [hB22]; exact rg, _, _, _, cg, rfl, ?_⟩
      refine ⟨JW, ?_, ?_, fun k a b => ?_, ?_, fun _ => ?_, fun k hk => ?_, fun z i hi => ?_⟩
      · exact (FA.tr (eA5.up (fun q hq => by unfold OC2 OC CAc; omega))).tr (eR.up (fun q hq => by unfold OC2; omega))
      · refine FB.tr ((y1.up (fun q hq => by unfold OR2 OR RAc; omega)).tr ((e6.up (fun q hq => by unfold OR2 OR RAc; omega)).tr (eW.up (fun q hq => by unfold OR2 OR RAc; omega))))
      · unfold RfM
        rw [mI_n1 (by omega), mI_n2 a, (e5 t (by omega)).1, (e4 t (by omega)).1, ← hA3, mI_n2 b]; exact tA k
      · unfold RfM
        rw [mI_n1 (by omega), mI_e, ← hW, mI_n1 (by omega), mI_e]; rfl
      · unfold RfM
        rw [mI_n1 (by omega), mI_n2 (by decide), (e5 t (by omega)).1, (e4 t (by omega)).1, ← hA3, mI_e, ← hW, mI_n1 (by omega), mI_n2 (by decide), ← hB6, mI_e]
      · have k1 : k ≠ 1 := fun z => hk (by rw [z]; decide)
        have k64 : k ≠ 64 := fun z => hk (by rw [z]; decide)
        have k8 : k ≠ 8 := fun z => hk (by rw [z]; decide)
        rw [uW k k1 k64, y2 k k8]
        exact uB k (fun z => hk (by simp only [List.mem_cons, List.not_mem_nil, or_false] at z ⊢; omega))
      · have q1 : mI A5 (t + 275) = mI A (t + 275) := by rw [(eA5 (t + 275) (by omega)).1, a275]
        have q2 : mI B6 (u + 1) = mI B (u + 1) := by rw [(e6 (u + 1) (by omega)).1, (y1 (u + 1) (by omega)).1, b1]
        unfold RfM
        rw [← hW, q2, q1]
        have v := z i hi
        by_cases zi : i = 2
        · subst zi
          rw [mI_e, z 2 (by decide)]
          show _ = mI (sI _ (u + 1) 3 _) (u + 1) 3
          rw [mI_e]; rfl
        · have z2 : rfJ i ≠ 3 := fun y => zi ((rfJ_inj i hi 2 (by decide)).mp y)
          rw [mI_n2 zi, mI_n2 z2, mI_n1 (by omega), mI_n1 (by omega), q1, q2]; exact v
