/-! ===== by starters, the best starter, compare ===== -/
def S5 (u : Nat) (V : Nat → Nat) (C : Nat → Nat → Nat) (P : Nat → Bool) (M0 K : Mem) : Prop := CnE u M0 K ∧ LC u V C K ∧ ∀ k, k < 4 → mI K (u + 27) k = Int32.ofNat (fC P k)
theorem S5.st {u : Nat} {V : Nat → Nat} {C : Nat → Nat → Nat} {P : Nat → Bool} {M0 K : Mem} {v : Int32} (h : S5 u V C P M0 K) : S5 u V C P M0 (sI K (u + 27) 4 v) := by
  obtain ⟨h1, h2, h3⟩ := h
  exact ⟨h1.tr (CnE_s (by decide)), h2.keep (fun j a b => by funext k; rw [mI_n1 (by omega)]), fun k hk => by rw [mI_n2 (by omega)]; exact h3 k hk⟩
theorem S5.five {u Y c pl : Nat} {V : Nat → Nat} {C : Nat → Nat → Nat} {P : Nat → Bool} {M0 K : Mem} (h : S5 u V C P M0 K) (h4 : (cs P).length = 4) (hV : ∀ c, V c ≤ 31) (hY : mI M0 (u + 2) 7 = Int32.ofNat Y) (hY2 : Y ≤ 31) (hp : pl < 2) (hc : c < 52) (e4 : mI K (u + 27) 4 = Int32.ofNat c) : So (FX12_countFive u (Int32.ofNat pl) K) (fun x => S5 u V C P M0 x.2 ∧ x.1 = Int32.ofNat (amt V Y C pl (w5 (fC P) c) 0)) := by
  obtain ⟨h1, h2, h3⟩ := h
  have hf : F5 u (w5 (fC P) c) K := fun k hk => by
    by_cases y : k = 4
    · rw [y, e4, w5_4]; exact ⟨hc, rfl⟩
    · rw [w5_l (by omega)]
      exact ⟨(fC_mem (by omega)).1, h3 k (by omega)⟩
  refine (countFive_r (crib := pl) h2 hf hV (by rw [h1.row]; exact hY) hY2 hp).mono (fun x hx => ⟨⟨h1.tr (CnE.of hx.1 (fun q hq => by omega)), h2.keep (fun j a b => (hx.1 (u + j) (by omega)).1), fun k hk => ?_⟩, hx.2.1⟩)
  rw [(hx.1 (u + 27) (by omega)).1]; exact h3 k hk
theorem set4 {Λ : Lam} {t u T : Nat} {M : Mem} (h : InvL Λ t u T M) (h4 : (cs (hP (mI M (u + 2)))).length = 4) : ∃ V Y C N K1 K2, FX11_takeHeld t M = some N ∧ InvL Λ t u T N ∧ mI N (u + 2) = mI M (u + 2) ∧ WV N (t + 179) V Y C ∧ TK N (t + 203) (t + 179) 0 V Y C (hP (mI M (u + 2))) ∧ Bs (mJ N (t + 1) 5) (hP (mI M (u + 2))) ∧ FX12_takeHeld u (sI N u 0 0) = some K1 ∧ FX12_layCounts u 0 K1 = some K2 ∧ S5 u V (C 0) (hP (mI M (u + 2))) (sI N u 0 0) K2 ∧ mI (sI N u 0 0) (u + 2) 7 = Int32.ofNat Y ∧ Y ≤ 31 := by
  have hu := h.1
  obtain ⟨n, I, N0, Y, n1, n2, n3, y1, y2, y3, n4⟩ := h.fitV
  have hB : Bs (mJ N0 (t + 1) 5) (hP (mI M (u + 2))) := by have := n2.held.1; rw [n3] at this; exact this
  obtain ⟨N, m1, m2, m3⟩ := take_c (b := t + 203) (pl := 0) (by omega) y3 (by omega) hB h4
  have iN : InvL Λ t u T N := n2.scr (m2.up (fun q hq => by omega))
  have r2 : mI N (u + 2) = mI M (u + 2) := by rw [(m2 (u + 2) (by omega)).1, n3]
  have r3 : mI (sI N u 0 0) (u + 2) = mI M (u + 2) := u0_row.trans r2
  obtain ⟨K1, k1, k2, k3⟩ := takeHeld_r (u := u) (M := sI N u 0 0) (by rw [r3]; exact h4)
  rw [r3] at k3
  have cK : CnE u (sI N u 0 0) K1 := CnE.of k2 (fun q hq => by omega)
  have rK := cK.row.trans r3
  have z20 : mI (sI N u 0 0) u 20 = 0 := by rw [mI_n2 (by decide)]; exact iN.2.2.2.2.2.2.2.2.2.2.2.2
  obtain ⟨K2, g1, g2, g3, g4, _⟩ := layCounts_r (pl := 0) (n4 _ rK (by rw [cK.2.1 20 (by decide) (by decide)]; exact z20)) (by omega)
  refine ⟨_, Y, _, N, K1, K2, ?_, iN, r2, y3.keep (fun q a b => m2 q (by omega)), m3, ?_, k1, g1, ⟨cK.tr g2, g3, fun k hk => by rw [g4]; exact k3 k hk⟩, by rw [r3]; exact y1, y2⟩
  · unfold FX11_takeHeld
    rw [ob n1, ob (show FX2_take (t + 203) (mJ N0 (t + 1) 5) 0 (t + 179) N0 = _ from m1)]
  · rw [(m2 (t + 1) (by omega)).2.1]; exact hB
theorem st_byStarters : St_byStarters Inv := by
  rintro t u T M p1 ⟨Λ, h⟩
  have hu := h.1
  obtain ⟨a1, a2, a3⟩ := h.held
  have e4 : (Int32.ofNat (cs (hP (mI M (u + 2)))).length = 4) ↔ (cs (hP (mI M (u + 2)))).length = 4 := nn_eq (b := 4) (by omega) (by omega)
  have no : FX11_byStarters t p1 M = some (-1, M) → FX12_byStarters u p1 M = some (-1, sI M u 0 0) → ∃ v M1 M2, FX11_byStarters t p1 M = some (v, M1) ∧ FX12_byStarters u p1 M1 = some (v, M2) ∧ Inv t u T M2 := fun x y => ⟨-1, M, sI M u 0 0, x, y, Λ, h.u0 0⟩
  have i1 : FX12_in p1.toInt64 0 999 = some (if 0 ≤ p1.toInt ∧ p1.toInt ≤ 999 then 1 else 0) := in_i p1 0 999
  by_cases c1 : 0 ≤ p1.toInt ∧ p1.toInt ≤ 999
  rotate_left
  · refine no ?_ ?_
    · unfold FX11_byStarters
      rw [jb]
      by_cases x : p1.toInt < 0
      · rw [if_pos (p_lt0.mpr x)]
      · rw [if_neg (fun q => x (p_lt0.mp q)), if_pos (p_gt.mpr (show (999 : Int32).toInt < _ by rw [show (999 : Int32).toInt = 999 from rfl]; omega))]
    · unfold FX12_byStarters
      rw [nmb, ob (heldM u0_row a2), jb, ob i1, if_neg c1]
      split <;> rfl
  have x1 : ¬ p1 < 0 := fun q => by have := p_lt0.mp q; omega
  have x1' : ¬ 999 < p1 := fun q => by have := p_gt.mp q; rw [show (999 : Int32).toInt = 999 from rfl] at this; omega
  by_cases h4 : (cs (hP (mI M (u + 2)))).length = 4
  rotate_left
  · refine no ?_ ?_
    · unfold FX11_byStarters
      rw [jb, if_neg x1, if_neg x1', ob a1.count, if_neg (fun q => h4 (e4.mp q))]
    · unfold FX12_byStarters
      rw [nmb, ob (heldM u0_row a2), jb, if_pos (fun q => h4 (e4.mp q))]
  obtain ⟨V, Y, C, N, K1, K2, s1', s2, s3, s4, s5, s6, s7, s8, s9, y1, y2⟩ := set4 h h4
  obtain ⟨n, hn, rfl⟩ := p_rng (n := 999) c1 (by decide)
  generalize hQ : hP (mI M (u + 2)) = P at *
  have hv2 : ∀ c, V c ≤ 31 := fun c => (s4.vle c).2
  have hl : ∀ c, amt V Y (C 0) 0 (w5 (fC P) c) 0 ≤ 400000 := fun c => amt_le (fun k i => s4.cle 0 k i) 0
  generalize hg : (fun c => if P c = true then 0 else if n ≤ amt V Y (C 0) 0 (w5 (fC P) c) 0 then 1 else 0) = g
  have gs : ∀ c, g c = if P c = true then 0 else if n ≤ amt V Y (C 0) 0 (w5 (fC P) c) 0 then 1 else 0 := fun c => by rw [← hg]
  have run : So (FX12_byStarters u (Int32.ofNat n) N) (fun x => x.1 = Int32.ofNat (sm g 52) ∧ S5 u V (C 0) P (sI N u 0 0) x.2) := by
    unfold FX12_byStarters
    refine So_nm (So.bindE (heldM (u0_row.trans s3) a2) (So_jn0 ?_))
    rw [hQ, if_neg (fun q => q (e4.mpr h4)), ob i1, if_pos c1, if_pos (by decide), ob s7, ob s8]
    refine So_wl3 (fun v8 v9 K => ∃ i, i ≤ 52 ∧ v9 = Int32.ofNat i ∧ v8 = Int32.ofNat (sm g i) ∧ S5 u V (C 0) P (sI N u 0 0) K) (fun _ v9 _ => 52 - ix v9) ?_ fuel 0 0 K2 ⟨0, by omega, rfl, rfl, s9⟩ (by unfold fuel; omega)
    rintro v8 v9 K rec ⟨i, hi, rfl, rfl, k1⟩ hr
    by_cases z : i = 52
    · subst z
      rw [if_pos (show (52 : Int32) ≤ Int32.ofNat 52 by decide)]
      exact So.ok ⟨rfl, k1⟩
    rw [if_neg (show ¬ (52 : Int32) ≤ Int32.ofNat i from nle (n := 52) (by omega) (by decide))]
    have k2 := k1.st (v := Int32.ofNat i)
    refine So_nm ?_
    rw [isHeld_nn u _ (show i < 52 by omega), k2.1.row, u0_row, s3]
    refine So.bindE rfl (So_jn2R (fun v L => v = Int32.ofNat (g i) ∧ S5 u V (C 0) P (sI N u 0 0) L) (fun v L hL => So_nm (So_nm ?_)) (fun j hj => So_jn1R (fun L => g i = 0 ∧ S5 u V (C 0) P (sI N u 0 0) L) (fun L hL => hj _ _ ⟨by rw [hL.1]; rfl, hL.2⟩) (fun j2 hj2 => ?_)))
    · rw [hL.1, nn_add, s1]
      exact hr _ _ _ ⟨i + 1, by omega, rfl, rfl, hL.2⟩ (by rw [nn_ix (by omega), nn_ix (by omega)]; omega)
    · have hPi : P i = decide (mI M (u + 2) (130 + i) = 1) := by rw [← hQ]; rfl
      by_cases y : mI M (u + 2) (130 + i) = 1
      · rw [if_pos y, if_pos (by decide)]
        exact hj2 _ ⟨by rw [gs, hPi, decide_eq_true y]; rfl, k2⟩
      · rw [if_neg y, if_neg (by decide)]
        refine So_bdM (k2.five (pl := 0) h4 hv2 y1 y2 (by decide) (show i < 52 by omega) mI_e) (fun w L hL => ?_)
        have w1 : w = _ := hL.2
        rw [w1]
        have hPf : P i = false := by rw [hPi]; exact decide_eq_false y
        have en : (Int32.ofNat (amt V Y (C 0) 0 (w5 (fC P) i) 0) < Int32.ofNat n) ↔ amt V Y (C 0) 0 (w5 (fC P) i) 0 < n := nn_lt (by have := hl i; omega) (by omega)
        refine So.ite (fun q => hj2 _ ⟨?_, hL.1⟩) (fun q => hj _ _ ⟨?_, hL.1⟩)
        · rw [gs, hPf, if_neg (by decide), if_neg (by have := en.mp q; omega)]
        · rw [gs, hPf, if_neg (by decide), if_pos (Nat.le_of_not_lt (fun x => q (en.mpr x)))]; rfl
  obtain ⟨⟨v, L⟩, r1, r2, r3⟩ := run
  have r2 : v = _ := r2
  have r3 : S5 u V (C 0) P (sI N u 0 0) L := r3
  refine ⟨v, N, L, ?_, r1, Λ, (s2.u0 0).cn r3.1⟩
  unfold FX11_byStarters
  rw [jb, if_neg x1, if_neg x1', ob a1.count, if_pos (e4.mpr h4), ob s1', r2]
  apply So.eq
  refine So_wl2 (fun v6 v7 => ∃ i, i ≤ 52 ∧ v7 = Int32.ofNat i ∧ v6 = Int32.ofNat (sm g i)) (fun _ v7 => 52 - ix v7) ?_ fuel 0 0 ⟨0, by omega, rfl, rfl⟩ (by unfold fuel; omega)
  rintro v6 v7 rec ⟨i, hi, rfl, rfl⟩ hr
  by_cases z : i = 52
  · subst z
    rw [if_pos (show (52 : Int32) ≤ Int32.ofNat 52 by decide)]
    exact So.ok rfl
  rw [if_neg (show ¬ (52 : Int32) ≤ Int32.ofNat i from nle (n := 52) (by omega) (by decide))]
  refine So.bindE (s6.has (show i < 52 by omega)) (So_jn1R (fun v => v = Int32.ofNat (sm g (i + 1))) (fun v hv => So_nm ?_) (fun j hj => ?_))
  · rw [hv, s1]
    exact hr _ _ ⟨i + 1, by omega, rfl, rfl⟩ (by rw [nn_ix (by omega), nn_ix (by omega)]; omega)
  · by_cases y : P i = true
    · rw [if_pos y, if_pos (by decide)]
      exact hj _ (by rw [sm_s, gs, if_pos y, Nat.add_zero])
    · rw [if_neg y, if_neg (by decide)]
      refine So.bindE (show FX2_part (t + 203) (Int32.ofNat i) 0 N = _ from part_c (wh := 0) s4 (by decide) h4 s5 (show i < 52 by omega) (by decide)) ?_
      have en : (Int32.ofNat (amt V Y (C 0) 0 (w5 (fC P) i) 0) < Int32.ofNat n) ↔ amt V Y (C 0) 0 (w5 (fC P) i) 0 < n := nn_lt (by have := hl i; omega) (by omega)
      refine So.ite (fun q => hj _ ?_) (fun q => So_nm (hj _ ?_))
      · rw [sm_s, gs, if_neg y, if_neg (by have := en.mp q; omega), Nat.add_zero]
      · rw [sm_s, gs, if_neg y, if_pos (Nat.le_of_not_lt (fun x => q (en.mpr x))), s1]
/-- the best starter so far, and what it counts -/
def bSt (P : Nat → Bool) (a : Nat → Nat) : Nat → Int32 × Int32
  | 0 => (-1, -1)
  | i + 1 => if P i = true then bSt P a i else if Int32.ofNat (a i) ≤ (bSt P a i).2 then bSt P a i else (Int32.ofNat i, Int32.ofNat (a i))
theorem bSt_s {P : Nat → Bool} {a : Nat → Nat} {i : Nat} : bSt P a (i + 1) = if P i = true then bSt P a i else if Int32.ofNat (a i) ≤ (bSt P a i).2 then bSt P a i else (Int32.ofNat i, Int32.ofNat (a i)) := rfl
theorem bSt_ge {P : Nat → Bool} {a : Nat → Nat} (h : ∀ i, a i ≤ 400000) : ∀ i, -1 ≤ (bSt P a i).2.toInt
  | 0 => by show -1 ≤ (-1 : Int32).toInt; decide
  | i + 1 => by
    have ih := bSt_ge (P := P) h i
    rw [bSt_s]
    split
    · exact ih
    · split
      · exact ih
      · show -1 ≤ (Int32.ofNat (a i)).toInt
        rw [nn_int (by have := h i; omega)]; omega
theorem st_bestStarter : St_bestStarter Inv := by
  rintro t u T M p1 ⟨Λ, h⟩
  have hu := h.1
  obtain ⟨a1, a2, a3⟩ := h.held
  have e4 : (Int32.ofNat (cs (hP (mI M (u + 2)))).length = 4) ↔ (cs (hP (mI M (u + 2)))).length = 4 := nn_eq (b := 4) (by omega) (by omega)
  have no : FX11_bestStarter t p1 M = some (-1, M) → FX12_bestStarter u p1 M = some (-1, sI M u 0 0) → ∃ v M1 M2, FX11_bestStarter t p1 M = some (v, M1) ∧ FX12_bestStarter u p1 M1 = some (v, M2) ∧ Inv t u T M2 := fun x y => ⟨-1, M, sI M u 0 0, x, y, Λ, h.u0 0⟩
  have i1 : FX12_in p1.toInt64 0 1 = some (if 0 ≤ p1.toInt ∧ p1.toInt ≤ 1 then 1 else 0) := in_i p1 0 1
  by_cases c1 : 0 ≤ p1.toInt ∧ p1.toInt ≤ 1
  rotate_left
  · refine no ?_ ?_
    · unfold FX11_bestStarter
      rw [jb]
      by_cases x : p1.toInt < 0
      · rw [if_pos (p_lt0.mpr x)]
      · rw [if_neg (fun q => x (p_lt0.mp q)), if_pos (p_gt.mpr (show (1 : Int32).toInt < _ by rw [show (1 : Int32).toInt = 1 from rfl]; omega))]
    · unfold FX12_bestStarter
      rw [nmb, ob (heldM u0_row a2), jb, ob i1, if_neg c1]
      split <;> rfl
  have x1 : ¬ p1 < 0 := fun q => by have := p_lt0.mp q; omega
  have x1' : ¬ 1 < p1 := fun q => by have := p_gt.mp q; rw [show (1 : Int32).toInt = 1 from rfl] at this; omega
  by_cases h4 : (cs (hP (mI M (u + 2)))).length = 4
  rotate_left
  · refine no ?_ ?_
    · unfold FX11_bestStarter
      rw [jb, if_neg x1, if_neg x1', ob a1.count, if_neg (fun q => h4 (e4.mp q))]
    · unfold FX12_bestStarter
      rw [nmb, ob (heldM u0_row a2), jb, if_pos (fun q => h4 (e4.mp q))]
  obtain ⟨V, Y, C, N, K1, K2, s1', s2, s3, s4, s5, s6, s7, s8, s9, y1, y2⟩ := set4 h h4
  generalize hQ : hP (mI M (u + 2)) = P at *
  have hv2 : ∀ c, V c ≤ 31 := fun c => (s4.vle c).2
  have hl : ∀ c, amt V Y (C 0) 0 (w5 (fC P) c) 0 ≤ 400000 := fun c => amt_le (fun k i => s4.cle 0 k i) 0
  have hpt : ∀ i, i < 52 → FX2_part (t + 203) (Int32.ofNat i) 0 N = some (Int32.ofNat (amt V Y (C 0) 0 (w5 (fC P) i) 0)) := fun i hi => part_c (wh := 0) s4 (by decide) h4 s5 hi (by decide)
  have hfv : ∀ i K, i < 52 → S5 u V (C 0) P (sI N u 0 0) K → So (FX12_countFive u 0 (sI K (u + 27) 4 (Int32.ofNat i))) (fun x => S5 u V (C 0) P (sI N u 0 0) x.2 ∧ x.1 = Int32.ofNat (amt V Y (C 0) 0 (w5 (fC P) i) 0)) := fun i K hi hK => hK.st.five (pl := 0) h4 hv2 y1 y2 (by decide) hi mI_e
  generalize hA : (fun i => amt V Y (C 0) 0 (w5 (fC P) i) 0) = a
  have eA : ∀ i, amt V Y (C 0) 0 (w5 (fC P) i) 0 = a i := fun i => by rw [← hA]
  simp only [eA] at hl hpt hfv
  have hge := bSt_ge (P := P) hl
  have run : So (FX12_bestStarter u p1 N) (fun x => x.1 = (if ¬ p1 = 0 then (bSt P a 52).2 else (bSt P a 52).1) ∧ S5 u V (C 0) P (sI N u 0 0) x.2) := by
    unfold FX12_bestStarter
    refine So_nm (So.bindE (heldM (u0_row.trans s3) a2) (So_jn0 ?_))
    rw [hQ, if_neg (fun q => q (e4.mpr h4)), ob i1, if_pos c1, if_pos (by decide), ob s7, ob s8]
    refine So_wl4 (fun v8 v9 v10 K => ∃ i, i ≤ 52 ∧ v10 = Int32.ofNat i ∧ v9 = (bSt P a i).1 ∧ v8 = (bSt P a i).2 ∧ S5 u V (C 0) P (sI N u 0 0) K) (fun _ _ v10 _ => 52 - ix v10) ?_ fuel (-1) (-1) 0 K2 ⟨0, by omega, rfl, rfl, rfl, s9⟩ (by unfold fuel; omega)
    rintro v8 v9 v10 K rec ⟨i, hi, rfl, rfl, rfl, k1⟩ hr
    by_cases z : i = 52
    · subst z
      rw [if_pos (show (52 : Int32) ≤ Int32.ofNat 52 by decide)]
      refine So_jn1 (So.ite (fun q => So.ok ⟨by rw [if_pos q], k1⟩) (fun q => So.ok ⟨by rw [if_neg q], k1⟩))
    rw [if_neg (show ¬ (52 : Int32) ≤ Int32.ofNat i from nle (n := 52) (by omega) (by decide))]
    have k2 := k1.st (v := Int32.ofNat i)
    refine So_nm ?_
    rw [isHeld_nn u _ (show i < 52 by omega), k2.1.row, u0_row, s3]
    refine So.bindE rfl (So_jn2R (fun v L => ((P i = true ∧ v = -1) ∨ (¬ P i = true ∧ v = Int32.ofNat (a i))) ∧ S5 u V (C 0) P (sI N u 0 0) L) (fun v L hL => ?_) (fun j hj => ?_))
    · have nx : ∀ x y, x = (bSt P a (i + 1)).1 → y = (bSt P a (i + 1)).2 → So (rec y x (Int32.ofNat i + 1) L) (fun x => x.1 = (if ¬ p1 = 0 then (bSt P a 52).2 else (bSt P a 52).1) ∧ S5 u V (C 0) P (sI N u 0 0) x.2) := fun x y hx hy => by
        rw [s1]
        exact hr _ _ _ _ ⟨i + 1, by omega, rfl, hx, hy, hL.2⟩ (by rw [nn_ix (by omega), nn_ix (by omega)]; omega)
      have key : (v ≤ (bSt P a i).2 → bSt P a (i + 1) = bSt P a i) ∧ (¬ v ≤ (bSt P a i).2 → bSt P a (i + 1) = (Int32.ofNat i, v)) := by
        rw [bSt_s]
        rcases hL.1 with ⟨b1, b2⟩ | ⟨b1, b2⟩
        · rw [if_pos b1]
          exact ⟨fun _ => rfl, fun q => absurd (by rw [b2, Int32.le_iff_toInt_le]; exact hge i) q⟩
        · rw [if_neg b1, b2]
          exact ⟨fun q => by rw [if_pos q], fun q => by rw [if_neg q]⟩
      refine So_jn1R (fun x => x = (bSt P a (i + 1)).1) (fun x hx => So_jn1R (fun y => y = (bSt P a (i + 1)).2) (fun y hy => So_nm (nx x y hx hy)) (fun j2 hj2 => ?_)) (fun j1 hj1 => ?_)
      · exact So.ite (fun q => hj2 _ (by rw [key.1 q])) (fun q => hj2 _ (by rw [key.2 q]))
      · exact So.ite (fun q => hj1 _ (by rw [key.1 q])) (fun q => hj1 _ (by rw [key.2 q]))
    · have hPi : P i = decide (mI M (u + 2) (130 + i) = 1) := by rw [← hQ]; rfl
      by_cases y : mI M (u + 2) (130 + i) = 1
      · rw [if_pos y, if_neg (by decide)]
        exact hj _ _ ⟨Or.inl ⟨by rw [hPi]; exact decide_eq_true y, rfl⟩, k2⟩
      · rw [if_neg y, if_pos rfl]
        refine So_bdM (hfv i K (by omega) k1) (fun w L hL => hj _ _ ⟨Or.inr ⟨by rw [hPi, decide_eq_false y]; decide, hL.2⟩, hL.1⟩)
  obtain ⟨⟨v, L⟩, r1, r2, r3⟩ := run
  have r2 : v = _ := r2
  have r3 : S5 u V (C 0) P (sI N u 0 0) L := r3
  refine ⟨v, N, L, ?_, r1, Λ, (s2.u0 0).cn r3.1⟩
  unfold FX11_bestStarter
  rw [jb, if_neg x1, if_neg x1', ob a1.count, if_pos (e4.mpr h4), ob s1', r2]
  apply So.eq
  refine So_wl3 (fun v6 v7 v8 => ∃ i, i ≤ 52 ∧ v8 = Int32.ofNat i ∧ v6 = (bSt P a i).1 ∧ v7 = (bSt P a i).2) (fun _ _ v8 => 52 - ix v8) ?_ fuel (-1) (-1) 0 ⟨0, by omega, rfl, rfl, rfl⟩ (by unfold fuel; omega)
  rintro v6 v7 v8 rec ⟨i, hi, rfl, rfl, rfl⟩ hr
  by_cases z : i = 52
  · subst z
    rw [if_pos (show (52 : Int32) ≤ Int32.ofNat 52 by decide)]
    refine So_jn1 (So.ite (fun q => So.ok (by rw [if_pos q])) (fun q => So.ok (by rw [if_neg q])))
  rw [if_neg (show ¬ (52 : Int32) ≤ Int32.ofNat i from nle (n := 52) (by omega) (by decide))]
  refine So.bindE (s6.has (show i < 52 by omega)) (So_jn2R (fun x y => x = (bSt P a (i + 1)).1 ∧ y = (bSt P a (i + 1)).2) (fun x y hxy => So_nm ?_) (fun j hj => ?_))
  · rw [s1]
    exact hr _ _ _ ⟨i + 1, by omega, rfl, hxy.1, hxy.2⟩ (by rw [nn_ix (by omega), nn_ix (by omega)]; omega)
  · by_cases y : P i = true
    · rw [if_pos y, if_pos (by decide)]
      exact hj _ _ (by rw [bSt_s, if_pos y]; exact ⟨rfl, rfl⟩)
    · rw [if_neg y, if_neg (by decide)]
      refine So.bindE (hpt i (by omega)) (So.ite (fun q => hj _ _ (by rw [bSt_s, if_neg y, if_pos q]; exact ⟨rfl, rfl⟩)) (fun q => So.bindE (hpt i (by omega)) (hj _ _ (by rw [bSt_s, if_neg y, if_neg q]; exact ⟨rfl, rfl⟩))))
