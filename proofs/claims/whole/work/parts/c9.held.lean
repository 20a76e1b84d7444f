/-! ===== what is held is counted ===== -/
def hP (r : Nat → Int32) : Nat → Bool := fun c => decide (r (130 + c) = 1)
theorem InvL.scr {Λ : Lam} {t u T : Nat} {M N : Mem} (h : InvL Λ t u T M) (e : Eo (fun q => (t + 96 ≤ q ∧ q < t + 171) ∨ (t + 203 ≤ q ∧ q < t + 275)) M N) : InvL Λ t u T N := by
  have hu := h.1
  have hT := h.2.1
  refine h.same (fun q hq => e q (by unfold Used at hq; omega)) (fun k _ => by rw [(e t (by omega)).1]) (fun k _ => by rw [(e (t + 171) (by omega)).1]) (fun k _ => by rw [(e u (by omega)).1]) (Nat.le_refl _)
theorem InvL.cn {Λ : Lam} {t u T : Nat} {M N : Mem} (h : InvL Λ t u T M) (e : CnE u M N) : InvL Λ t u T N := by
  have hu := h.1
  have hT := h.2.1
  refine h.same (fun q hq => e.1 q (by unfold Used at hq; omega)) (fun k _ => by rw [(e.1 t (by omega)).1]) (fun k _ => by rw [(e.1 (t + 171) (by omega)).1]) (fun k hk => e.2.1 k (fun z => by rw [z] at hk; exact absurd hk (by decide)) (fun z => by rw [z] at hk; exact absurd hk (by decide))) (Nat.le_refl _)
theorem u0_row {M : Mem} {u : Nat} : mI (sI M u 0 0) (u + 2) = mI M (u + 2) := (Ea_sI (M := M) (a := u) (b := u + 2) (k := 0) (v := 0) (by omega)).1
theorem laySix_r {u : Nat} {M : Mem} (h6 : (cs (hP (mI M (u + 2)))).length ≤ 6) : So (FX12_laySix u M) (fun x => Eo (fun q => q = u + 31) M x.2 ∧ x.1 = Int32.ofNat (cs (hP (mI M (u + 2)))).length ∧ ∀ k, k < (cs (hP (mI M (u + 2)))).length → mI x.2 (u + 31) k = Int32.ofNat (fC (hP (mI M (u + 2))) k)) := by
  unfold FX12_laySix
  generalize hQ : hP (mI M (u + 2)) = P at h6
  refine So_wl3 (fun v1 v2 N => ∃ i, i ≤ 52 ∧ v2 = Int32.ofNat i ∧ v1 = Int32.ofNat ((List.range i).filter P).length ∧ Eo (fun q => q = u + 31) M N ∧ ∀ k, k < ((List.range i).filter P).length → mI N (u + 31) k = Int32.ofNat (((List.range i).filter P).getD k 0)) (fun _ v2 _ => 52 - ix v2) ?_ fuel 0 0 M ⟨0, by omega, rfl, rfl, Eo.rf, fun k hk => absurd hk (Nat.not_lt_zero _)⟩ (by unfold fuel; omega)
  rintro v1 v2 N rec ⟨i, hi, rfl, rfl, n1, n2⟩ hr
  have hl := cs_pre (P := P) hi
  by_cases z : i = 52
  · subst z
    rw [if_pos (show (52 : Int32) ≤ Int32.ofNat 52 by decide)]
    exact So.ok ⟨n1, rfl, n2⟩
  · rw [if_neg (show ¬ (52 : Int32) ≤ Int32.ofNat i from nle (n := 52) (by omega) (by decide)), isHeld_nn u N (by omega), (n1 (u + 2) (by omega)).1]
    refine So.bindE rfl (So_jn2R (fun a K => a = Int32.ofNat ((List.range (i + 1)).filter P).length ∧ Eo (fun q => q = u + 31) M K ∧ ∀ k, k < ((List.range (i + 1)).filter P).length → mI K (u + 31) k = Int32.ofNat (((List.range (i + 1)).filter P).getD k 0)) (fun a K hK => So_nm ?_) (fun j hj => ?_))
    · rw [s1]
      exact hr _ _ _ ⟨i + 1, by omega, rfl, hK⟩ (by rw [nn_ix (by omega), nn_ix (by omega)]; omega)
    · have hPi : P i = decide (mI M (u + 2) (130 + i) = 1) := by rw [← hQ]; rfl
      by_cases y : mI M (u + 2) (130 + i) = 1
      · have hPt : P i = true := by rw [hPi]; exact decide_eq_true y
        have hl2 := cs_pre (P := P) (show i + 1 ≤ 52 by omega)
        rw [rs_succ, if_pos hPt, List.length_append] at hl2
        have hl2 : ((List.range i).filter P).length + 1 ≤ (cs P).length := hl2
        rw [if_pos y, if_neg (by decide), nn_ix (by omega)]
        refine So_gd (inb_nn (by omega) (by decide)) (So_nm (So_nm (hj _ _ ?_)))
        rw [rs_succ, if_pos hPt, List.length_append, s1]
        refine ⟨rfl, n1.tr (Eo_sI rfl), fun k hk => ?_⟩
        have hk : k < ((List.range i).filter P).length + 1 := hk
        rw [getD_app]
        by_cases x : k = ((List.range i).filter P).length
        · rw [if_neg (by omega), if_pos x, x, mI_e]
        · rw [if_pos (by omega), mI_n2 x]; exact n2 k (by omega)
      · rw [if_neg y, if_pos rfl]
        refine hj _ _ ?_
        rw [rs_succ, if_neg (by rw [hPi, decide_eq_false y]; decide), List.append_nil]
        exact ⟨rfl, n1, n2⟩
theorem takeHeld_r {u : Nat} {M : Mem} (h4 : (cs (hP (mI M (u + 2)))).length = 4) : So (FX12_takeHeld u M) (fun N => Eo (fun q => q = u + 31 ∨ q = u + 27) M N ∧ ∀ k, k < 4 → mI N (u + 27) k = Int32.ofNat (fC (hP (mI M (u + 2))) k)) := by
  unfold FX12_takeHeld
  refine So_bdM (laySix_r (by omega)) (fun v N hN => ?_)
  have n1 : Eo (fun q => q = u + 31) M N := hN.1
  have n2 : ∀ k, k < (cs (hP (mI M (u + 2)))).length → mI N (u + 31) k = Int32.ofNat (fC (hP (mI M (u + 2))) k) := hN.2.2
  refine loop_for 4 (by decide) (fun i K => Eo (fun q => q = u + 31 ∨ q = u + 27) M K ∧ mI K (u + 31) = mI N (u + 31) ∧ ∀ k, k < i → mI K (u + 27) k = Int32.ofNat (fC (hP (mI M (u + 2))) k)) N ⟨n1.up (fun q hq => Or.inl hq), rfl, fun k hk => absurd hk (by omega)⟩ (fun K rec hK => ?_) (fun i K rec hi hK hr => ?_)
  · exact So.ite (fun _ => So.ok ⟨hK.1, hK.2.2⟩) (fun z => absurd z (ge_self 4))
  · refine So.ite (fun z => absurd z (nle hi (by decide))) (fun _ => ?_)
    rw [nn_ix (by omega), hK.2.1, n2 i (by omega)]
    refine So_gd (inb_nn (by omega) (by decide)) (So_gd (inb_nn (by omega) (by decide)) (So_nm (So_nm (hr _ ⟨hK.1.tr (Eo_sI (Or.inr rfl)), ?_, fun k hk => ?_⟩))))
    · funext k; rw [mI_n1 (by omega), hK.2.1]
    · by_cases z : k = i
      · rw [z, mI_e]
      · rw [mI_n2 z]; exact hK.2.2 k (by omega)
theorem InvL.held {Λ : Lam} {t u T : Nat} {M : Mem} (h : InvL Λ t u T M) : Bs (mJ M (t + 1) 5) (hP (mI M (u + 2))) ∧ (∀ c, c < 52 → mI M (u + 2) (130 + c) = 0 ∨ mI M (u + 2) (130 + c) = 1) ∧ (cs (hP (mI M (u + 2)))).length ≤ 6 := h.2.2.1.2.2.1
theorem heldM {u : Nat} {M : Mem} {r : Nat → Int32} (e : mI M (u + 2) = r) (hb : ∀ c, c < 52 → r (130 + c) = 0 ∨ r (130 + c) = 1) : FX12_heldOnes u M = some (Int32.ofNat (cs (hP r)).length) := by
  rw [heldOnes_eq u M (fun c hc => by rw [e]; exact hb c hc), e]; rfl
theorem canCount_b {Λ : Lam} {t u T : Nat} {M : Mem} (h : InvL Λ t u T M) (p : Int32) : ∃ v, FX11_canCount t p M = some v ∧ (∀ K, mI K (u + 2) = mI M (u + 2) → FX12_canCount u p K = some v) ∧ ((v = 1 ∧ ∃ c, c < 52 ∧ p = Int32.ofNat c ∧ (cs (hP (mI M (u + 2)))).length = 4 ∧ hP (mI M (u + 2)) c = false) ∨ v = 0) := by
  obtain ⟨a1, a2, a3⟩ := h.held
  have hl : (cs (hP (mI M (u + 2)))).length < 2147483648 := by omega
  unfold FX11_canCount FX12_canCount
  have e4 : (Int32.ofNat (cs (hP (mI M (u + 2)))).length = 4) ↔ (cs (hP (mI M (u + 2)))).length = 4 := nn_eq (b := 4) hl (by omega)
  by_cases z : (cs (hP (mI M (u + 2)))).length = 4
  rotate_left
  · refine ⟨0, ?_, fun K hK => ?_, Or.inr rfl⟩
    · rw [ob a1.count, jb1, jb, if_pos (fun q => z (e4.mp q))]; rfl
    · rw [ob (heldM hK a2), jb1, jb, if_pos (fun q => z (e4.mp q))]; rfl
  rcases card_cases p with ⟨c, hc, rfl⟩ | hno
  rotate_left
  · refine ⟨0, ?_, fun K hK => ?_, Or.inr rfl⟩
    · rw [ob a1.count, jb1, jb, if_neg (fun q => q (e4.mpr z)), isCard_eq, if_neg hno]; rfl
    · rw [ob (heldM hK a2), jb1, jb, if_neg (fun q => q (e4.mpr z)), isCardM, if_neg hno]; rfl
  have k2 : FX12_isCard (Int32.ofNat c) = some 1 := by rw [isCardM, nn_int (by omega), if_pos (by omega)]
  have k3 : ∀ K, mI K (u + 2) = mI M (u + 2) → FX12_isHeld u (Int32.ofNat c) K = some (if hP (mI M (u + 2)) c = true then 1 else 0) := fun K hK => by
    rw [isHeld_nn u K hc, hK]; unfold hP; simp
  by_cases y : hP (mI M (u + 2)) c = true
  · refine ⟨0, ?_, fun K hK => ?_, Or.inr rfl⟩
    · rw [ob a1.count, jb1, jb, if_neg (fun q => q (e4.mpr z)), ob (isCard_nn hc), if_neg (by decide), ob (a1.has hc), if_pos y]; rfl
    · rw [ob (heldM hK a2), jb1, jb, if_neg (fun q => q (e4.mpr z)), ob k2, if_neg (by decide), ob (k3 K hK), if_pos y]; rfl
  · refine ⟨1, ?_, fun K hK => ?_, Or.inl ⟨rfl, c, hc, rfl, z, by simpa using y⟩⟩
    · rw [ob a1.count, jb1, jb, if_neg (fun q => q (e4.mpr z)), ob (isCard_nn hc), if_neg (by decide), ob (a1.has hc), if_neg y]; rfl
    · rw [ob (heldM hK a2), jb1, jb, if_neg (fun q => q (e4.mpr z)), ob k2, if_neg (by decide), ob (k3 K hK), if_neg y]; rfl
/-- fit, and what the tables then are -/
theorem InvL.fitV {Λ : Lam} {t u T : Nat} {M : Mem} (h : InvL Λ t u T M) : ∃ n I N Y, FX10_fit (t + 179) (t + 1) (mI M (t + 1) 8) (t + 1 + 1) M = some N ∧ InvL Λ t u T N ∧ mI N (u + 2) = mI M (u + 2) ∧ mI M (u + 2) 7 = Int32.ofNat Y ∧ Y ≤ 31 ∧ WV N (t + 179) (vN I n (mI M (u + 2) 8) (mI M (u + 2) 6)) Y (cN I n (mI M (u + 2) 8) (mI M (u + 2) 6)) ∧ ∀ K, mI K (u + 2) = mI M (u + 2) → mI K u 20 = 0 → RL u n I (mI M (u + 2) 8) (mI M (u + 2) 6) K := by
  obtain ⟨n, I, N, n1, n2, n3, n4⟩ := h.fitJ
  have hSt : SRt N (t + 1) (mI N (u + 2)) := n2.2.2.1.2.2.2.2.2
  obtain ⟨Y, y1, y2, y3⟩ := n4.wv hSt.2.2.2.2.2
  rw [n3] at y1 y3
  refine ⟨n, I, N, Y, n1, n2, n3, y1, y2.2, y3, fun K k1 k2 => ⟨?_, k2, by rw [k1], by rw [k1]⟩⟩
  have := n4.2.2
  rw [n3] at this
  rw [k1]; exact this
theorem p_rng {p : Int32} {n : Nat} (h : 0 ≤ p.toInt ∧ p.toInt ≤ n) (hn : n < 2147483647) : ∃ k, k ≤ n ∧ p = Int32.ofNat k := by
  obtain ⟨k, hk, rfl⟩ := nn_exi (i := p) h.1
  rw [nn_int hk] at h
  exact ⟨k, by omega, rfl⟩
theorem p_lt0 {p : Int32} : (p < 0) ↔ p.toInt < 0 := i_lt0
theorem p_gt {p q : Int32} : (q < p) ↔ q.toInt < p.toInt := Int32.lt_iff_toInt_lt
theorem st_counted : St_counted Inv := by
  rintro t u T M p1 p2 p3 ⟨Λ, h⟩
  have hu := h.1
  obtain ⟨v, v1, v2, v3⟩ := canCount_b h p1
  have no : FX11_counted t p1 p2 p3 M = some (-1, M) → FX12_counted u p1 p2 p3 M = some (-1, sI M u 0 0) → ∃ v M1 M2, FX11_counted t p1 p2 p3 M = some (v, M1) ∧ FX12_counted u p1 p2 p3 M1 = some (v, M2) ∧ Inv t u T M2 := fun x y => ⟨-1, M, sI M u 0 0, x, y, Λ, h.u0 0⟩
  have i2 : FX12_in p2.toInt64 0 1 = some (if 0 ≤ p2.toInt ∧ p2.toInt ≤ 1 then 1 else 0) := in_i p2 0 1
  have i3 : FX12_in p3.toInt64 0 5 = some (if 0 ≤ p3.toInt ∧ p3.toInt ≤ 5 then 1 else 0) := in_i p3 0 5
  rcases v3 with ⟨rfl, c, hc, rfl, h4, hh⟩ | rfl
  rotate_left
  · refine no ?_ ?_
    · unfold FX11_counted; rw [ob v1]; rfl
    · unfold FX12_counted; rw [nmb, ob (v2 _ u0_row)]; rfl
  by_cases c2 : 0 ≤ p2.toInt ∧ p2.toInt ≤ 1
  rotate_left
  · refine no ?_ ?_
    · unfold FX11_counted; rw [ob v1, jb, if_neg (by decide)]
      by_cases x : p2.toInt < 0
      · rw [if_pos (p_lt0.mpr x)]
      · rw [if_neg (fun q => x (p_lt0.mp q)), if_pos (p_gt.mpr (show (1 : Int32).toInt < _ by rw [show (1 : Int32).toInt = 1 from rfl]; omega))]
    · unfold FX12_counted; rw [nmb, ob (v2 _ u0_row), jb, if_neg (by decide), ob i2, if_neg c2]; rfl
  have x2 : ¬ p2 < 0 := fun q => by have := p_lt0.mp q; omega
  have x2' : ¬ 1 < p2 := fun q => by have := p_gt.mp q; rw [show (1 : Int32).toInt = 1 from rfl] at this; omega
  by_cases c3 : 0 ≤ p3.toInt ∧ p3.toInt ≤ 5
  rotate_left
  · refine no ?_ ?_
    · unfold FX11_counted; rw [ob v1, jb, if_neg (by decide), if_neg x2, if_neg x2']
      by_cases x : p3.toInt < 0
      · rw [if_pos (p_lt0.mpr x)]
      · rw [if_neg (fun q => x (p_lt0.mp q)), if_neg (fun q => by rw [Int32.le_iff_toInt_le, show (5 : Int32).toInt = 5 from rfl] at q; omega)]
    · unfold FX12_counted; rw [nmb, ob (v2 _ u0_row), jb, if_neg (by decide), ob i2, if_pos c2, if_neg (by decide), ob i3, if_neg c3]; rfl
  have x3 : ¬ p3 < 0 := fun q => by have := p_lt0.mp q; omega
  have x3' : p3 ≤ 5 := by rw [Int32.le_iff_toInt_le, show (5 : Int32).toInt = 5 from rfl]; omega
  obtain ⟨n, I, N, Y, n1, n2, n3, y1, y2, y3, n4⟩ := h.fitV
  obtain ⟨pl, hpl, rfl⟩ := p_rng (n := 1) c2 (by decide)
  obtain ⟨wh, hwh, rfl⟩ := p_rng (n := 5) c3 (by decide)
  have hB : Bs (mJ N (t + 1) 5) (hP (mI M (u + 2))) := by have := n2.held.1; rw [n3] at this; exact this
  obtain ⟨N2, m1, m2, m3⟩ := take_c (b := t + 203) (pl := pl) (by omega) y3 (by omega) hB h4
  have hpt := part_c (s := c) (wh := wh) (y3.keep (fun q a b => m2 q (by omega))) (by omega) h4 m3 hc (by omega)
  have iN2 : InvL Λ t u T N2 := n2.scr (m2.up (fun q hq => by omega))
  have r2 : mI N2 (u + 2) = mI M (u + 2) := by rw [(m2 (u + 2) (by omega)).1, n3]
  have r3 : mI (sI N2 u 0 0) (u + 2) = mI M (u + 2) := u0_row.trans r2
  obtain ⟨K1, k1, k2, k3⟩ := takeHeld_r (u := u) (M := sI N2 u 0 0) (by rw [r3]; exact h4)
  rw [r3] at k3
  have cK : CnE u (sI N2 u 0 0) (sI K1 (u + 27) 4 (Int32.ofNat c)) := (CnE.of k2 (fun q hq => by omega)).tr (CnE_s (by decide))
  have rK := cK.row.trans r3
  have z20 : mI (sI N2 u 0 0) u 20 = 0 := by rw [mI_n2 (by decide)]; exact iN2.2.2.2.2.2.2.2.2.2.2.2.2
  obtain ⟨K2, g1, g2, g3, g4, _⟩ := layCounts_r (pl := pl) (n4 _ rK (by rw [cK.2.1 20 (by decide) (by decide)]; exact z20)) (by omega)
  have hf : F5 u (w5 (fC (hP (mI M (u + 2)))) c) K2 := fun k hk => by
    rw [g4]
    by_cases y : k = 4
    · rw [y, mI_e, w5_4]; exact ⟨hc, rfl⟩
    · rw [mI_n2 y, w5_l (by omega)]
      exact ⟨(fC_mem (by omega)).1, k3 k (by omega)⟩
  obtain ⟨⟨w, K3⟩, q1, q2, q3, q4⟩ := countFive_r (crib := pl) g3 hf (fun c => vN_rg.2) (by rw [g2.row, rK]; exact y1) y2 (by omega)
  have q2 : Eo (fun q => q = u + 28 ∨ q = u + 29) K2 K3 := q2
  have q4 : ∀ w, w < 6 → mI K3 (u + 28) w = _ := q4
  refine ⟨Int32.ofNat (amt (vN I n (mI M (u + 2) 8) (mI M (u + 2) 6)) Y (cN I n (mI M (u + 2) 8) (mI M (u + 2) 6) pl) pl (w5 (fC (hP (mI M (u + 2)))) c) wh), N2, K3, ?_, ?_, Λ, ((iN2.u0 0).cn (cK.tr g2)).cn (CnE.of q2 (fun q hq => by omega))⟩
  · unfold FX11_counted
    rw [ob v1, jb, if_neg (by decide), if_neg x2, if_neg x2', if_neg x3, if_pos x3', ob n1, jb1]
    have e1 : (Int32.ofNat pl = 1) ↔ pl = 1 := nn_eq (b := 1) (by omega) (by omega)
    by_cases x : pl = 1
    · rw [if_neg (fun q => q (e1.mpr x))]
      subst x
      show ((FX2_take (t + 203) (mJ N (t + 1) 5) (Int32.ofNat 1) (t + 179) N).bind fun M16 => (FX2_part (t + 203) (Int32.ofNat c) (Int32.ofNat wh) M16).bind fun r18 => some (r18, M16)) = _
      rw [ob m1, ob hpt]
    · rw [if_pos (fun q => x (e1.mp q))]
      obtain rfl : pl = 0 := by omega
      show ((FX2_take (t + 203) (mJ N (t + 1) 5) (Int32.ofNat 0) (t + 179) N).bind fun M16 => (FX2_part (t + 203) (Int32.ofNat c) (Int32.ofNat wh) M16).bind fun r18 => some (r18, M16)) = _
      rw [ob m1, ob hpt]
  · unfold FX12_counted
    rw [nmb, ob (v2 _ r3), jb, if_neg (by decide), ob i2, if_pos c2, if_neg (by decide), ob i3, if_pos c3, if_pos (by decide), ob k1, nmb, ob g1, bo q1, gp (inb_nn (by omega) (by decide)), nn_ix (by omega), q4 wh (by omega)]
