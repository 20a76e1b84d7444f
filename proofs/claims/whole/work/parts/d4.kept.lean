/-! ===== kept ===== -/
def bK (g : Nat → Nat) : Nat → Nat
  | 0 => 0
  | i + 1 => if g (i + 1) ≤ g (bK g i) then bK g i else i + 1
theorem bK_le {g : Nat → Nat} : ∀ i, bK g i ≤ i
  | 0 => Nat.le_refl _
  | i + 1 => by
    have := bK_le (g := g) i
    show (if g (i + 1) ≤ g (bK g i) then bK g i else i + 1) ≤ i + 1
    split <;> omega
/-- the most so far, with the two laid away: behind i fours -/
def kS (g : Nat → Nat) (P : Nat → Bool) : Nat → Int32 × Int32 × Int32
  | 0 => (-1, -1, -1)
  | i + 1 => if Int32.ofNat (g i) ≤ (kS g P i).1 then kS g P i else (Int32.ofNat (g i), Int32.ofNat (fC P (pa i)), Int32.ofNat (fC P (pb i)))
theorem kS_s {g : Nat → Nat} {P : Nat → Bool} {i : Nat} : kS g P (i + 1) = if Int32.ofNat (g i) ≤ (kS g P i).1 then kS g P i else (Int32.ofNat (g i), Int32.ofNat (fC P (pa i)), Int32.ofNat (fC P (pb i))) := rfl
theorem kS_bK {g : Nat → Nat} {P : Nat → Bool} (hg : ∀ i, g i < 2147483648) : ∀ i, kS g P (i + 1) = (Int32.ofNat (g (bK g i)), Int32.ofNat (fC P (pa (bK g i))), Int32.ofNat (fC P (pb (bK g i))))
  | 0 => by
    rw [kS_s, if_neg]
    · rfl
    · show ¬ Int32.ofNat (g 0) ≤ -1
      rw [Int32.le_iff_toInt_le, nn_int (hg 0), show (-1 : Int32).toInt = -1 from rfl]; omega
  | i + 1 => by
    rw [kS_s, kS_bK hg i]
    have e : (Int32.ofNat (g (i + 1)) ≤ Int32.ofNat (g (bK g i))) ↔ g (i + 1) ≤ g (bK g i) := nn_le (hg _) (hg _)
    show (if Int32.ofNat (g (i + 1)) ≤ Int32.ofNat (g (bK g i)) then _ else _) = _
    show _ = (Int32.ofNat (g (if g (i + 1) ≤ g (bK g i) then bK g i else i + 1)), Int32.ofNat (fC P (pa (if g (i + 1) ≤ g (bK g i) then bK g i else i + 1))), Int32.ofNat (fC P (pb (if g (i + 1) ≤ g (bK g i) then bK g i else i + 1))))
    by_cases z : g (i + 1) ≤ g (bK g i)
    · rw [if_pos (e.mpr z), if_pos z]
    · rw [if_neg (fun q => z (e.mp q)), if_neg z]
theorem cA_le {V : Nat → Nat} {Y : Nat} {C : Nat → Nat → Nat} {P : Nat → Bool} (h : ∀ k i, C k i ≤ 99) (m c : Nat) : cA V Y C P m c ≤ 400000 := amt_le h 0
theorem tot_lt {V : Nat → Nat} {Y : Nat} {C : Nat → Nat → Nat} {P : Nat → Bool} (h : ∀ k i, C k i ≤ 99) (m : Nat) : tot V Y C P m < 2147483648 := by
  have : tot V Y C P m ≤ 52 * 400000 := sm_le (fun i _ => by
    show (if P i = true then 0 else cA V Y C P m i) ≤ 400000
    split
    · omega
    · exact cA_le h m i)
  omega
theorem dearest_c {b Y : Nat} {V : Nat → Nat} {C : Nat → Nat → Nat} {P : Nat → Bool} {N : Mem} (h : FSr N b 15 V Y C P) (hc : ∀ k i, C k i ≤ 99) : FX3_dearest b N = some (Int32.ofNat (bK (tot V Y C P) 14)) := by
  apply So.eq
  unfold FX3_dearest
  refine So_wl2 (fun v1 v2 => ∃ i, i ≤ 14 ∧ v2 = Int32.ofNat (i + 1) ∧ v1 = Int32.ofNat (bK (tot V Y C P) i)) (fun _ v2 => 15 - ix v2) ?_ fuel 0 1 ⟨0, by omega, rfl, rfl⟩ (by unfold fuel; omega)
  rintro v1 v2 rec ⟨i, hi, rfl, rfl⟩ hr
  have hb := bK_le (g := tot V Y C P) i
  by_cases z : i = 14
  · subst z
    rw [if_pos (show (15 : Int32) ≤ Int32.ofNat (14 + 1) by decide)]
    exact So.ok rfl
  rw [if_neg (show ¬ (15 : Int32) ≤ Int32.ofNat (i + 1) from nle (n := 15) (by omega) (by decide))]
  refine So.bindE (together_c h (by omega) (cA_le hc)) (So.bindE (together_c h (by omega) (cA_le hc)) (So_jn1R (fun v => v = Int32.ofNat (bK (tot V Y C P) (i + 1))) (fun v hv => So_nm ?_) (fun j hj => ?_)))
  · rw [hv, s1]
    exact hr _ _ ⟨i + 1, by omega, rfl, rfl⟩ (by rw [nn_ix (by omega), nn_ix (by omega)]; omega)
  · have e : (Int32.ofNat (tot V Y C P (i + 1)) ≤ Int32.ofNat (tot V Y C P (bK (tot V Y C P) i))) ↔ _ := nn_le (tot_lt hc _) (tot_lt hc _)
    refine So.ite (fun q => hj _ ?_) (fun q => hj _ ?_)
    · show _ = Int32.ofNat (if _ then _ else _)
      rw [if_pos (e.mp q)]
    · show _ = Int32.ofNat (if _ then _ else _)
      rw [if_neg (fun w => q (e.mpr w))]
theorem away_c {b Y m : Nat} {V : Nat → Nat} {C : Nat → Nat → Nat} {P : Nat → Bool} {N : Mem} (h : FSr N b 15 V Y C P) (hm : m < 15) : FX3_lowerAway b (Int32.ofNat m) N = some (Int32.ofNat (fC P (pa m))) ∧ FX3_higherAway b (Int32.ofNat m) N = some (Int32.ofNat (fC P (pb m))) := by
  have n0 : ¬ Int32.ofNat m < 0 := fun q => by have := (nn_lt (b := 0) (by omega) (by omega)).mp q; omega
  have n15 : ¬ (15 : Int32) ≤ Int32.ofNat m := nle (n := 15) hm (by decide)
  constructor
  · unfold FX3_lowerAway
    rw [jb1, jb, if_neg n0, if_neg n15, gp (inb_nn hm (by decide)), nn_ix (by omega), (h.1 m hm).2.1]
  · unfold FX3_higherAway
    rw [jb1, jb, if_neg n0, if_neg n15, gp (inb_nn hm (by decide)), nn_ix (by omega), (h.1 m hm).2.2]
theorem st_kept : St_kept Inv := by
  rintro t u T M p1 ⟨Λ, h⟩
  have hu := h.1
  obtain ⟨a1, a2, a3⟩ := h.held
  have e6 : (Int32.ofNat (cs (hP (mI M (u + 2)))).length = 6) ↔ (cs (hP (mI M (u + 2)))).length = 6 := nn_eq (b := 6) (by omega) (by omega)
  have no : FX11_kept t p1 M = some (-1, M) → FX12_kept u p1 M = some (-1, sI M u 0 0) → ∃ v M1 M2, FX11_kept t p1 M = some (v, M1) ∧ FX12_kept u p1 M1 = some (v, M2) ∧ Inv t u T M2 := fun x y => ⟨-1, M, sI M u 0 0, x, y, Λ, h.u0 0⟩
  have i1 : FX12_in p1.toInt64 0 2 = some (if 0 ≤ p1.toInt ∧ p1.toInt ≤ 2 then 1 else 0) := in_i p1 0 2
  by_cases h6 : (cs (hP (mI M (u + 2)))).length = 6
  rotate_left
  · refine no ?_ ?_
    · unfold FX11_kept
      rw [ob a1.count, jb, if_pos (fun q => h6 (e6.mp q))]
    · unfold FX12_kept
      rw [nmb, ob (heldM u0_row a2), jb, if_pos (fun q => h6 (e6.mp q))]
  by_cases c1 : 0 ≤ p1.toInt ∧ p1.toInt ≤ 2
  rotate_left
  · refine no ?_ ?_
    · unfold FX11_kept
      rw [ob a1.count, jb, if_neg (fun q => q (e6.mpr h6))]
      by_cases x : p1.toInt < 0
      · rw [if_pos (p_lt0.mpr x)]
      · rw [if_neg (fun q => x (p_lt0.mp q)), if_neg (fun q => by rw [Int32.le_iff_toInt_le, show (2 : Int32).toInt = 2 from rfl] at q; omega)]
    · unfold FX12_kept
      rw [nmb, ob (heldM u0_row a2), jb, if_neg (fun q => q (e6.mpr h6)), ob i1, if_neg c1]; rfl
  have x1 : ¬ p1 < 0 := fun q => by have := p_lt0.mp q; omega
  have x1' : p1 ≤ 2 := by rw [Int32.le_iff_toInt_le, show (2 : Int32).toInt = 2 from rfl]; omega
  obtain ⟨V, Y, C, N, K0, K1, K2, s1', s2, s3, s4, s5, s6, s7, y1, y2, hV, hC, _⟩ := set6 h h6
  have r3 : mI (sI N u 0 0) (u + 2) = mI M (u + 2) := u0_row.trans s3
  rw [r3] at y1
  generalize hQ : hP (mI M (u + 2)) = P at *
  have hg := tot_lt (V := V) (Y := Y) (P := P) (hC 0)
  have hw := fun m c => cA_le (V := V) (Y := Y) (P := P) (hC 0) m c
  have run : So (FX12_kept u p1 N) (fun x => x.1 = (if ¬ p1 = 0 then (if ¬ p1 = 1 then (kS (tot V Y (C 0) P) P 15).2.2 else (kS (tot V Y (C 0) P) P 15).2.1) else (kS (tot V Y (C 0) P) P 15).1) ∧ S6 u V (C 0) P (sI N u 0 0) x.2) := by
    unfold FX12_kept
    refine So_nm (So.bindE (heldM r3 a2) (So_jn0 ?_))
    rw [hQ, if_neg (fun q => q (e6.mpr h6)), ob i1, if_pos c1, if_pos (by decide), bo s5, ob s6]
    generalize hG : tot V Y (C 0) P = g at hg
    refine So_wl5 (fun v9 v10 v11 v12 K => ∃ a, a ≤ 6 ∧ v12 = Int32.ofNat a ∧ (v9, v10, v11) = kS g P (pix a (a + 1)) ∧ S6 u V (C 0) P (sI N u 0 0) K) (fun _ _ _ v12 _ => 6 - ix v12) ?_ fuel (-1) (-1) (-1) 0 K2 ⟨0, by omega, rfl, rfl, s7⟩ (by unfold fuel; omega)
    rintro v9 v10 v11 v12 K rec ⟨a, ha, rfl, hv, k1⟩ hr
    by_cases z : a = 6
    · subst z
      rw [if_pos (show (6 : Int32) ≤ Int32.ofNat 6 by decide)]
      have hv : (v9, v10, v11) = kS g P 15 := hv
      rw [← hv]
      refine So_jn1 (So.ite (fun q => So.ite (fun q2 => So.ok ⟨by rw [if_pos q, if_pos q2], k1⟩) (fun q2 => So.ok ⟨by rw [if_pos q, if_neg q2], k1⟩)) (fun q => So.ok ⟨by rw [if_neg q], k1⟩))
    have ha : a < 6 := by omega
    rw [if_neg (show ¬ (6 : Int32) ≤ Int32.ofNat a from nle (n := 6) ha (by decide))]
    refine So_nm ?_
    rw [s1]
    refine So_wl5 (fun v20 v21 v22 v23 K => ∃ c, a < c ∧ c ≤ 6 ∧ v23 = Int32.ofNat c ∧ (v20, v21, v22) = kS g P (pix a c) ∧ S6 u V (C 0) P (sI N u 0 0) K) (fun _ _ _ v23 _ => 6 - ix v23) ?_ fuel v9 v10 v11 _ K ⟨a + 1, by omega, by omega, rfl, hv, k1⟩ (by unfold fuel; omega)
    rintro v20 v21 v22 v23 K rec2 ⟨c, ac, c6, rfl, hv2, k2⟩ hr2
    by_cases z6 : c = 6
    · subst z6
      rw [if_pos (show (6 : Int32) ≤ Int32.ofNat 6 by decide)]
      refine So_nm (hr _ _ _ _ _ ⟨a + 1, by omega, rfl, by rw [hv2, pix_n a ha], k2⟩ (by rw [nn_ix (by omega), nn_ix (by omega)]; omega))
    have hc : c < 6 := by omega
    obtain ⟨p1', p2, p3, p4⟩ := pix_t a ha c hc ac
    generalize hm : pix a c = m at p1' p2 p3 p4 hv2
    rw [if_neg (show ¬ (6 : Int32) ≤ Int32.ofNat c from nle (n := 6) hc (by decide))]
    refine So.bind (takeFour_r k2 h6 ac hc) (fun L hL => ?_)
    obtain ⟨l1, l2, _⟩ := hL
    have k3 : S6 u V (C 0) P (sI N u 0 0) L := k2.keep (l1.up (fun q hq => by omega))
    refine So_bdM (withAll_r (Y := Y) (m := m) k3 h6 p3 (by rw [p1', p2]; exact l2) hV r3 hQ.symm y1 y2) (fun w X hX => ?_)
    have x2 : S6 u V (C 0) P (sI N u 0 0) X := hX.1
    have x3 : w = Int32.ofNat (g m) := by rw [← hG]; exact hX.2
    rw [x3, nn_ix (by omega), nn_ix (by omega), x2.2.2 c hc, x2.2.2 a ha]
    have e1 : v20 = (kS g P m).1 := by rw [← hv2]
    have e2 : v21 = (kS g P m).2.1 := by rw [← hv2]
    have e3 : v22 = (kS g P m).2.2 := by rw [← hv2]
    have key : (Int32.ofNat (g m) ≤ v20 → kS g P (m + 1) = (v20, v21, v22)) ∧ (¬ Int32.ofNat (g m) ≤ v20 → kS g P (m + 1) = (Int32.ofNat (g m), Int32.ofNat (fC P a), Int32.ofNat (fC P c))) := by
      rw [kS_s, ← e1]
      exact ⟨fun q => by rw [if_pos q, hv2], fun q => by rw [if_neg q, p1', p2]⟩
    refine So_jn1R (fun x => x = (kS g P (m + 1)).2.1) (fun x hx => So_jn1R (fun y => y = (kS g P (m + 1)).2.2) (fun y hy => So_jn1R (fun w => w = (kS g P (m + 1)).1) (fun w hw => So_nm ?_) (fun j hj => ?_)) (fun j hj => ?_)) (fun j hj => ?_)
    · rw [s1]
      refine hr2 _ _ _ _ _ ⟨c + 1, by omega, by omega, rfl, ?_, x2⟩ (by rw [nn_ix (by omega), nn_ix (by omega)]; omega)
      rw [p4, hx, hy, hw]
    · exact So.ite (fun q => hj _ (by rw [key.1 q])) (fun q => hj _ (by rw [key.2 q]))
    · exact So.ite (fun q => hj _ (by rw [key.1 q])) (fun q => So_gd (inb_nn hc (by decide)) (hj _ (by rw [key.2 q])))
    · exact So.ite (fun q => hj _ (by rw [key.1 q])) (fun q => So_gd (inb_nn ha (by decide)) (hj _ (by rw [key.2 q])))
  obtain ⟨⟨v, L⟩, r1, r2, r4⟩ := run
  have r2 : v = _ := r2
  have r4 : S6 u V (C 0) P (sI N u 0 0) L := r4
  refine ⟨v, N, L, ?_, r1, Λ, (s2.u0 0).cn r4.1⟩
  have hb := bK_le (g := tot V Y (C 0) P) 14
  unfold FX11_kept
  rw [ob a1.count, jb, if_neg (fun q => q (e6.mpr h6)), if_neg x1, if_pos x1', ob s1', ob (dearest_c s4 (hC 0)), r2, kS_bK hg 14]
  by_cases q : p1 = 0
  · rw [if_neg (fun w => w q), if_neg (fun w => w q), ob (together_c s4 (by omega) hw)]
  · rw [if_pos q, if_pos q, jb1]
    by_cases q2 : p1 = 1
    · rw [if_neg (fun w => w q2), if_neg (fun w => w q2), ob (away_c s4 (by omega)).1]
    · rw [if_pos q2, if_pos q2, ob (away_c s4 (by omega)).2]
