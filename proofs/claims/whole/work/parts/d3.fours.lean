/-! ===== the reference's fours ===== -/
def S6 (u : Nat) (V : Nat → Nat) (C : Nat → Nat → Nat) (P : Nat → Bool) (M0 K : Mem) : Prop := CnE u M0 K ∧ LC u V C K ∧ ∀ k, k < 6 → mI K (u + 31) k = Int32.ofNat (fC P k)
theorem S6.keep {u : Nat} {V : Nat → Nat} {C : Nat → Nat → Nat} {P : Nat → Bool} {M0 K L : Mem} (h : S6 u V C P M0 K) (e : Eo (fun q => u + 27 ≤ q ∧ q < u + 31) K L) : S6 u V C P M0 L := by
  obtain ⟨h1, h2, h3⟩ := h
  exact ⟨h1.tr (CnE.of e (fun q hq => by omega)), h2.keep (fun j a b => (e (u + j) (by omega)).1), fun k hk => by rw [(e (u + 31) (by omega)).1]; exact h3 k hk⟩
theorem takeFour_r {u a b : Nat} {V : Nat → Nat} {C : Nat → Nat → Nat} {P : Nat → Bool} {M0 M : Mem} (h : S6 u V C P M0 M) (h6 : (cs P).length = 6) (hab : a < b) (hb : b < 6) : So (FX12_takeFour u (Int32.ofNat a) (Int32.ofNat b) M) (fun N => Eo (fun q => q = u + 27) M N ∧ (∀ k, k < 4 → mI N (u + 27) k = Int32.ofNat (fC (Qm P a b) k)) ∧ ∀ k, 4 ≤ k → mI N (u + 27) k = mI M (u + 27) k) := by
  unfold FX12_takeFour
  have hl6 := rmL_6 a (by omega) b hb hab
  refine So_wl3 (fun v1 v2 N => ∃ k, k ≤ 6 ∧ v2 = Int32.ofNat k ∧ v1 = Int32.ofNat (rmL a b k).length ∧ Eo (fun q => q = u + 27) M N ∧ (∀ j, j < (rmL a b k).length → mI N (u + 27) j = Int32.ofNat (fC P ((rmL a b k).getD j 0))) ∧ ∀ j, 4 ≤ j → mI N (u + 27) j = mI M (u + 27) j) (fun _ v2 _ => 6 - ix v2) ?_ fuel 0 0 M ⟨0, by omega, rfl, rfl, Eo.rf, fun j hj => absurd hj (Nat.not_lt_zero _), fun _ _ => rfl⟩ (by unfold fuel; omega)
  rintro v1 v2 N rec ⟨k, k6, rfl, rfl, n1, n2, n3⟩ hr
  by_cases z : k = 6
  · subst z
    rw [if_pos (show (6 : Int32) ≤ Int32.ofNat 6 by decide)]
    exact So.ok ⟨n1, fun j hj => by rw [Qm_fC h6 hab hb hj]; exact n2 j (by omega), n3⟩
  rw [if_neg (show ¬ (6 : Int32) ≤ Int32.ofNat k from nle (n := 6) (by omega) (by decide))]
  refine So_jn2R (fun v L => v = Int32.ofNat (rmL a b (k + 1)).length ∧ Eo (fun q => q = u + 27) M L ∧ (∀ j, j < (rmL a b (k + 1)).length → mI L (u + 27) j = Int32.ofNat (fC P ((rmL a b (k + 1)).getD j 0))) ∧ ∀ j, 4 ≤ j → mI L (u + 27) j = mI M (u + 27) j) (fun v L hL => So_nm ?_) (fun j hj => ?_)
  · rw [s1]
    exact hr _ _ _ ⟨k + 1, by omega, rfl, hL⟩ (by rw [nn_ix (by omega), nn_ix (by omega)]; omega)
  have ea : (Int32.ofNat k = Int32.ofNat a) ↔ k = a := nn_eq (by omega) (by omega)
  have eb : (Int32.ofNat k = Int32.ofNat b) ↔ k = b := nn_eq (by omega) (by omega)
  have same : (k = a ∨ k = b) → So (j (Int32.ofNat (rmL a b k).length) N) _ := fun q => hj _ _ (by
    rw [rmL_s, if_neg (by rcases q with q | q <;> simp [q]), List.append_nil]
    exact ⟨rfl, n1, n2, n3⟩)
  refine So.ite (fun q => same (Or.inl (ea.mp q))) (fun qa => So.ite (fun q => same (Or.inr (eb.mp q))) (fun qb => ?_))
  have g : (!decide (k = a) && !decide (k = b)) = true := by
    rw [decide_eq_false (fun q => qa (ea.mpr q)), decide_eq_false (fun q => qb (eb.mpr q))]; rfl
  have hlt := rmL_le a (by omega) b hb hab k (by omega) g
  rw [nn_ix (by omega), nn_ix (by omega), (n1 (u + 31) (by omega)).1, h.2.2 k (by omega)]
  refine So_gd (inb_nn (by omega) (by decide)) (So_gd (inb_nn (by omega) (by decide)) (So_nm (So_nm (hj _ _ ?_))))
  rw [rmL_s, if_pos g, List.length_append, s1]
  refine ⟨rfl, n1.tr (Eo_sI rfl), fun i hi => ?_, fun i hi => ?_⟩
  · have hi : i < (rmL a b k).length + 1 := hi
    rw [getD_app]
    by_cases x : i = (rmL a b k).length
    · rw [if_neg (by omega), if_pos x, x, mI_e]
    · rw [if_pos (by omega), mI_n2 x]; exact n2 i (by omega)
  · rw [mI_n2 (by omega)]; exact n3 i hi
theorem S6.five {u Y c : Nat} {V : Nat → Nat} {C : Nat → Nat → Nat} {P Q : Nat → Bool} {M0 K : Mem} (h : S6 u V C P M0 K) (h5 : ∀ k, k < 4 → mI K (u + 27) k = Int32.ofNat (fC Q k)) (h4 : (cs Q).length = 4) (hV : ∀ c, V c ≤ 31) (hY : mI M0 (u + 2) 7 = Int32.ofNat Y) (hY2 : Y ≤ 31) (hc : c < 52) (e4 : mI K (u + 27) 4 = Int32.ofNat c) : So (FX12_countFive u 0 K) (fun x => Eo (fun q => q = u + 28 ∨ q = u + 29) K x.2 ∧ x.1 = Int32.ofNat (amt V Y C 0 (w5 (fC Q) c) 0)) := by
  obtain ⟨h1, h2, h3⟩ := h
  have hf : F5 u (w5 (fC Q) c) K := fun k hk => by
    by_cases y : k = 4
    · rw [y, e4, w5_4]; exact ⟨hc, rfl⟩
    · rw [w5_l (by omega)]
      exact ⟨(fC_mem (by omega)).1, h5 k (by omega)⟩
  exact (countFive_r (crib := 0) h2 hf hV (by rw [h1.row]; exact hY) hY2 (by decide)).mono (fun x hx => ⟨hx.1, hx.2.1⟩)
/-- with all starters -/
def tot (V : Nat → Nat) (Y : Nat) (C : Nat → Nat → Nat) (P : Nat → Bool) (m : Nat) : Nat := sm (fun c => if P c = true then 0 else cA V Y C P m c) 52
theorem withAll_r {u Y m : Nat} {V : Nat → Nat} {C : Nat → Nat → Nat} {P : Nat → Bool} {r : Nat → Int32} {M0 M : Mem} (h : S6 u V C P M0 M) (h6 : (cs P).length = 6) (hm : m < 15) (h5 : ∀ k, k < 4 → mI M (u + 27) k = Int32.ofNat (fC (Qm P (pa m) (pb m)) k)) (hV : ∀ c, V c ≤ 31) (hr0 : mI M0 (u + 2) = r) (hP0 : P = hP r) (hY : r 7 = Int32.ofNat Y) (hY2 : Y ≤ 31) : So (FX12_withAll u M) (fun x => S6 u V C P M0 x.2 ∧ x.1 = Int32.ofNat (tot V Y C P m)) := by
  obtain ⟨p1, p2, p3⟩ := pix_m m hm
  have h4 := Qm_4 (P := P) h6 p1 p2
  unfold FX12_withAll tot
  refine So_wl3 (fun v1 v2 N => ∃ i, i ≤ 52 ∧ v2 = Int32.ofNat i ∧ v1 = Int32.ofNat (sm (fun c => if P c = true then 0 else cA V Y C P m c) i) ∧ S6 u V C P M0 N ∧ ∀ k, k < 4 → mI N (u + 27) k = Int32.ofNat (fC (Qm P (pa m) (pb m)) k)) (fun _ v2 _ => 52 - ix v2) ?_ fuel 0 0 M ⟨0, by omega, rfl, rfl, h, h5⟩ (by unfold fuel; omega)
  rintro v1 v2 N rec ⟨i, hi, rfl, rfl, n1, n2⟩ hr
  by_cases z : i = 52
  · subst z
    rw [if_pos (show (52 : Int32) ≤ Int32.ofNat 52 by decide)]
    exact So.ok ⟨n1, rfl⟩
  rw [if_neg (show ¬ (52 : Int32) ≤ Int32.ofNat i from nle (n := 52) (by omega) (by decide)), isHeld_nn u _ (show i < 52 by omega), n1.1.row, hr0]
  refine So.bindE rfl (So_jn2R (fun v L => v = Int32.ofNat (sm (fun c => if P c = true then 0 else cA V Y C P m c) (i + 1)) ∧ S6 u V C P M0 L ∧ ∀ k, k < 4 → mI L (u + 27) k = Int32.ofNat (fC (Qm P (pa m) (pb m)) k)) (fun v L hL => So_nm ?_) (fun j hj => ?_))
  · rw [s1]
    exact hr _ _ _ ⟨i + 1, by omega, rfl, hL⟩ (by rw [nn_ix (by omega), nn_ix (by omega)]; omega)
  have hPi : P i = decide (r (130 + i) = 1) := by rw [hP0]; rfl
  by_cases y : r (130 + i) = 1
  · rw [if_pos y, if_pos (by decide)]
    exact hj _ _ ⟨by rw [sm_s, if_pos (by rw [hPi]; exact decide_eq_true y), Nat.add_zero], n1, n2⟩
  · rw [if_neg y, if_neg (by decide)]
    have k1 : S6 u V C P M0 (sI N (u + 27) 4 (Int32.ofNat i)) := n1.keep (Eo_sI (by omega))
    refine So_nm (So_bdM (k1.five (Q := Qm P (pa m) (pb m)) (c := i) (fun k hk => by rw [mI_n2 (by omega)]; exact n2 k hk) h4 hV (by rw [hr0]; exact hY) hY2 (by omega) mI_e) (fun w L hL => So_nm (hj _ _ ⟨?_, k1.keep (hL.1.up (fun q hq => by omega)), fun k hk => ?_⟩)))
    · have : w = _ := hL.2
      rw [this, nn_add, sm_s, if_neg (by rw [hPi, decide_eq_false y]; decide)]; rfl
    · rw [(hL.1 (u + 27) (by omega)).1, mI_n2 (by omega)]; exact n2 k hk
/-! the class's: all together -/
theorem together_c {b Y m : Nat} {V : Nat → Nat} {C : Nat → Nat → Nat} {P : Nat → Bool} {N : Mem} (h : FSr N b 15 V Y C P) (hm : m < 15) (hl : ∀ m c, cA V Y C P m c ≤ 400000) : FX3_together b (Int32.ofNat m) N = some (Int32.ofNat (tot V Y C P m)) := by
  apply So.eq
  unfold FX3_together tot
  refine So_wl2 (fun v1 v2 => ∃ i, i ≤ 52 ∧ v2 = Int32.ofNat i ∧ v1 = Int32.ofNat (sm (fun c => if P c = true then 0 else cA V Y C P m c) i)) (fun _ v2 => 52 - ix v2) ?_ fuel 0 0 ⟨0, by omega, rfl, rfl⟩ (by unfold fuel; omega)
  rintro v1 v2 rec ⟨i, hi, rfl, rfl⟩ hr
  refine So_jn0 ?_
  by_cases z : i = 52
  · subst z
    rw [if_pos (show (52 : Int32) ≤ Int32.ofNat 52 by decide)]
    exact So.ok rfl
  rw [if_neg (show ¬ (52 : Int32) ≤ Int32.ofNat i from nle (n := 52) (by omega) (by decide)), if_neg (show ¬ Int32.ofNat m < 0 from fun q => by have := (nn_lt (b := 0) (by omega) (by omega)).mp q; omega), if_neg (show ¬ (15 : Int32) ≤ Int32.ofNat m from nle (n := 15) hm (by decide)), nn_ix (by omega), nn_ix (by omega), show b + 1 + 1 + 1 * m = b + 2 + m by omega, (h.1 m hm).1 i (by omega)]
  refine So_gd (inb_nn hm (by decide)) (So_gd (inb_nn (by omega) (by decide)) (So_nm (So_nm ?_)))
  have e : imx 0 (if P i = true then -1 else Int32.ofNat (cA V Y C P m i)) = Int32.ofNat (if P i = true then 0 else cA V Y C P m i) := by
    by_cases y : P i = true
    · rw [if_pos y, if_pos y]; decide
    · rw [if_neg y, if_neg y, imx0 (by have := hl m i; omega)]
  rw [e, nn_add, s1]
  exact hr _ _ ⟨i + 1, by omega, rfl, rfl⟩ (by rw [nn_ix (by omega), nn_ix (by omega)]; omega)
/-- what is ready on both sides: six held -/
theorem set6 {Λ : Lam} {t u T : Nat} {M : Mem} (h : InvL Λ t u T M) (h6 : (cs (hP (mI M (u + 2)))).length = 6) : ∃ (V : Nat → Nat) (Y : Nat) (C : Nat → Nat → Nat → Nat) (N : Mem) (K0 : Int32) (K1 K2 : Mem), FX11_countFours t M = some N ∧ InvL Λ t u T N ∧ mI N (u + 2) = mI M (u + 2) ∧ FSr N (t + 209) 15 V Y (C 0) (hP (mI M (u + 2))) ∧ FX12_laySix u (sI N u 0 0) = some (K0, K1) ∧ FX12_layCounts u 0 K1 = some K2 ∧ S6 u V (C 0) (hP (mI M (u + 2))) (sI N u 0 0) K2 ∧ mI (sI N u 0 0) (u + 2) 7 = Int32.ofNat Y ∧ Y ≤ 31 ∧ (∀ c, V c ≤ 31) ∧ (∀ a b c, C a b c ≤ 99) ∧ Eo (fun q => (t + 179 ≤ q ∧ q < t + 191) ∨ (t + 203 ≤ q ∧ q < t + 275)) M N := by
  have hu := h.1
  obtain ⟨n, I, N0, Y, n1, n2, n3, y1, y2, y3, n4⟩ := h.fitV
  obtain ⟨n', I', N0', n1', n2', _⟩ := h.fit
  rw [n1] at n1'
  obtain rfl := Option.some.inj n1'
  have hB : Bs (mJ N0 (t + 1) 5) (hP (mI M (u + 2))) := by have := n2.held.1; rw [n3] at this; exact this
  obtain ⟨N, m1, m2, m3⟩ := countAll_c (b := t + 209) (f := t + 203) (w := t + 179) (by omega) (by omega) y3 hB h6
  have iN : InvL Λ t u T N := n2.scr (m2.up (fun q hq => by omega))
  have r2 : mI N (u + 2) = mI M (u + 2) := by rw [(m2 (u + 2) (by omega)).1, n3]
  have r3 : mI (sI N u 0 0) (u + 2) = mI M (u + 2) := u0_row.trans r2
  obtain ⟨⟨K0, K1⟩, k1, k2, _, k3⟩ := laySix_r (u := u) (M := sI N u 0 0) (by rw [r3]; omega)
  have k2 : Eo (fun q => q = u + 31) (sI N u 0 0) K1 := k2
  have k3 : ∀ k, _ → mI K1 (u + 31) k = _ := k3
  rw [r3] at k3
  have cK : CnE u (sI N u 0 0) K1 := CnE.of k2 (fun q hq => by omega)
  have rK := cK.row.trans r3
  have z20 : mI (sI N u 0 0) u 20 = 0 := by rw [mI_n2 (by decide)]; exact iN.2.2.2.2.2.2.2.2.2.2.2.2
  obtain ⟨K2, g1, g2, g3, _, g4⟩ := layCounts_r (pl := 0) (n4 _ rK (by rw [cK.2.1 20 (by decide) (by decide)]; exact z20)) (by omega)
  refine ⟨_, Y, _, N, K0, K1, K2, ?_, iN, r2, m3, k1, g1, ⟨cK.tr g2, g3, fun k hk => by rw [g4]; exact k3 k (by omega)⟩, by rw [r3]; exact y1, y2, fun c => vN_rg.2, fun a b c => cN_le, (n2'.up (fun q hq => by omega)).tr (m2.up (fun q hq => by omega))⟩
  unfold FX11_countFours
  rw [ob n1, ob m1]
