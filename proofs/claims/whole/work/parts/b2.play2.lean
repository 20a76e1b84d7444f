/-! ===== to play, on both sides ===== -/
theorem TV.vA {V : Nat → Int32} {Bd : Nat → Bool} {r : Nat → Int32} {c m p : Nat} (hV : TV r) (h : PtH V Bd r c m p) (hv : 1 ≤ (V c).toInt) : TV (ptA V r c m) ∧ (r 12 + V c).toInt = (r 12).toInt + (V c).toInt := by
  obtain ⟨l1, l2, l3⟩ := h.line hV
  obtain ⟨hc, hp, h9, h14, h13, hm8, hcan⟩ := h
  unfold canP at hcan
  simp only [Bool.and_eq_true, decide_eq_true_eq, Bool.not_eq_true'] at hcan
  obtain ⟨⟨⟨x1, x2⟩, x3⟩, x4⟩ := hcan
  have h12 : 0 ≤ (r 12).toInt ∧ (r 12).toInt ≤ 31 := hV.2.2.2.2.1
  have hs : (r 12 + V c).toInt = (r 12).toInt + (V c).toInt := i_add (by omega) (by omega)
  refine ⟨?_, hs⟩
  generalize hR : ptA V r c m = R
  have e : ∀ k, k ≠ 70 + c → k ≠ 122 + m → k ≠ 13 → k ≠ 12 → k ≠ 15 → R k = r k := fun k a b d f g => by
    rw [← hR]; unfold ptA; rw [ru_n g, ru_n f, ru_n d, ru_n b, ru_n a]
  have e70 : ∀ d, R (70 + d) = if d < 52 then ru r (70 + c) 1 (70 + d) else R (70 + d) := fun d => by
    by_cases z : d < 52
    · rw [if_pos z, ← hR]; unfold ptA; rw [ru_n (by omega), ru_n (by omega), ru_n (by omega), ru_n (by omega)]
    · rw [if_neg z]
  have R13 : R 13 = Int32.ofNat (m + 1) := by
    rw [← hR]; unfold ptA; rw [ru_n (by decide), ru_n (by decide), ru_e]
  have R12 : R 12 = r 12 + V c := by
    rw [← hR]; unfold ptA; rw [ru_n (by decide), ru_e]
  have R15 : R 15 = r 14 := by
    rw [← hR]; unfold ptA; rw [ru_e]
  have Rm : R (122 + m) = Int32.ofNat c := by
    rw [← hR]; unfold ptA; rw [ru_n (by omega), ru_n (by omega), ru_n (by omega), ru_e]
  have c18 : ∀ p : Int32, cs (fun c => decide (R (18 + c) = p)) = cs (fun c => decide (r (18 + c) = p)) := fun q => cs18 (fun k a b => e k (by omega) (by omega) (by omega) (by omega) (by omega)) q
  have c70 : cs (fun d => decide (R (70 + d) = 1)) = cs (fun d => decide (ru r (70 + c) 1 (70 + d) = 1)) := cs_cg (fun d hd => by rw [e70 d, if_pos hd])
  obtain ⟨h1, h2, h3, h4, h5, h6, h7, h8, h9', h10, h11, h12', h13', h14', h15, h16, h17, h18, h19⟩ := hV
  unfold TV
  rw [c18, c18, c18, c70, R13, R12, R15, e 8 (by omega) (by omega) (by omega) (by omega) (by omega), e 9 (by omega) (by omega) (by omega) (by omega) (by omega), e 10 (by omega) (by omega) (by omega) (by omega) (by omega), e 11 (by omega) (by omega) (by omega) (by omega) (by omega), e 14 (by omega) (by omega) (by omega) (by omega) (by omega), e 16 (by omega) (by omega) (by omega) (by omega) (by omega), e 17 (by omega) (by omega) (by omega) (by omega) (by omega), hs]
  refine ⟨h1, h2, h3, h4, by omega, ⟨m + 1, by omega, rfl, l2, fun k hk => ?_⟩, h7, h7, h9', h10, fun d hd => ?_, fun d hd => ?_, fun d hd => ?_, fun d hd z9 z => ?_, fun z => absurd (h9.symm.trans z) (by decide), h16, h17, h18, h19⟩
  · by_cases z : k = m
    · exact ⟨c, hc, by rw [z]; exact Rm⟩
    · obtain ⟨d, d1, d2⟩ := l3 k (by omega)
      exact ⟨d, d1, by rw [e _ (by omega) (by omega) (by omega) (by omega) (by omega)]; exact d2⟩
  · rw [e _ (by omega) (by omega) (by omega) (by omega) (by omega)]; exact h11 d hd
  · rw [e _ (by omega) (by omega) (by omega) (by omega) (by omega)]; exact h12' d hd
  · rw [e70 d, if_pos hd]
    by_cases y : d = c
    · rw [y, ru_e]; exact Or.inr rfl
    · rw [ru_n (by omega)]; exact h13' d hd
  · rw [e (18 + d) (by omega) (by omega) (by omega) (by omega) (by omega)]
    by_cases y : d = c
    · rw [y, x1]
      obtain rfl | rfl : p = 0 ∨ p = 1 := by omega
      · exact Or.inl rfl
      · exact Or.inr rfl
    · rw [e70 d, if_pos hd, ru_n (by omega)] at z
      exact h14' d hd h9 z
theorem TV.vC {r : Nat → Int32} (hV : TV r) : TV (ptC r) := by
  generalize hR : ptC r = R
  have e : ∀ k, k ≠ 12 → k ≠ 13 → R k = r k := fun k a b => by rw [← hR]; unfold ptC; rw [ru_n b, ru_n a]
  have R12 : R 12 = 0 := by rw [← hR]; rfl
  have R13 : R 13 = 0 := by rw [← hR]; rfl
  have c18 : ∀ p : Int32, cs (fun c => decide (R (18 + c) = p)) = cs (fun c => decide (r (18 + c) = p)) := fun q => cs18 (fun k a b => e k (by omega) (by omega)) q
  obtain ⟨h1, h2, h3, h4, h5, h6, h7, h8, h9, h10, h11, h12, h13, h14, h15, h16, h17, h18, h19⟩ := hV
  unfold TV
  rw [c18, c18, c18, R13, R12, e 8 (by omega) (by omega), e 9 (by omega) (by omega), e 10 (by omega) (by omega), e 11 (by omega) (by omega), e 14 (by omega) (by omega), e 15 (by omega) (by omega), e 16 (by omega) (by omega), e 17 (by omega) (by omega)]
  refine ⟨h1, h2, h3, h4, by decide, ⟨0, by omega, rfl, Nat.zero_le _, fun k hk => absurd hk (by omega)⟩, h7, h8, h9, h10, fun d hd => ?_, fun d hd => ?_, fun d hd => ?_, fun d hd => ?_, fun z => ⟨fun d hd => ?_, (h15 z).2⟩, h16, h17, h18, h19⟩
  · rw [e _ (by omega) (by omega)]; exact h11 d hd
  · rw [e _ (by omega) (by omega)]; exact h12 d hd
  · rw [e _ (by omega) (by omega)]; exact h13 d hd
  · rw [e (70 + d) (by omega) (by omega), e (18 + d) (by omega) (by omega)]; exact h14 d hd
  · rw [e _ (by omega) (by omega)]; exact (h15 z).1 d hd
theorem TV.vB {V : Nat → Int32} {Bd : Nat → Bool} {r : Nat → Int32} {p : Nat} (hV : TV r) (h9 : r 9 = 2) (hp : p < 2) : TV (ptB V Bd r p) := hV.turn h9 (tnP_v hp)
theorem ptA_o {V : Nat → Int32} {r : Nat → Int32} {c m k : Nat} (h1 : k ≠ 70 + c) (h2 : k ≠ 122 + m) (h3 : k ≠ 13) (h4 : k ≠ 12) (h5 : k ≠ 15) : ptA V r c m k = r k := by
  unfold ptA; rw [ru_n h5, ru_n h4, ru_n h3, ru_n h2, ru_n h1]
theorem ptB_o {V : Nat → Int32} {Bd : Nat → Bool} {r : Nat → Int32} {p k : Nat} (h : k ≠ 14) : ptB V Bd r p k = r k := ru_n h
theorem ptC_o {r : Nat → Int32} {k : Nat} (h : k ≠ 12) (h2 : k ≠ 13) : ptC r k = r k := by unfold ptC; rw [ru_n h2, ru_n h]
theorem pgP_o {r : Nat → Int32} {p k : Nat} {y : Int32} (hp : p < 2) (h : k ≠ 16) (h2 : k ≠ 17) : pgP r p y k = r k := ru_n (by omega)
theorem ptA_12 {V : Nat → Int32} {r : Nat → Int32} {c m : Nat} : ptA V r c m 12 = r 12 + V c := by unfold ptA; rw [ru_n (by decide), ru_e]
theorem ptA_13 {V : Nat → Int32} {r : Nat → Int32} {c m : Nat} : ptA V r c m 13 = Int32.ofNat (m + 1) := by unfold ptA; rw [ru_n (by decide), ru_n (by decide), ru_e]
theorem ptA_ln {V : Nat → Int32} {r : Nat → Int32} {c m k : Nat} (hc : c < 52) (hm : m < 8) (l3 : ∀ k, k < m → ∃ d, d < 52 ∧ r (122 + k) = Int32.ofNat d) (hk : k < m + 1) : ptL r m c k < 52 ∧ ptA V r c m (122 + k) = Int32.ofNat (ptL r m c k) := by
  unfold ptL
  by_cases z : k = m
  · rw [if_pos z, z]
    refine ⟨hc, ?_⟩
    unfold ptA; rw [ru_n (by omega), ru_n (by omega), ru_n (by omega), ru_e]
  · obtain ⟨d, d1, d2⟩ := l3 k (by omega)
    rw [if_neg z, d2, nn_ix (by omega), ptA_o (by omega) (by omega) (by omega) (by omega) (by omega)]
    exact ⟨d1, d2⟩
theorem putDown_c {b w c m p n : Nat} {I : Nat → CI} {deal mood : Int32} {A : Mem} {r : Nat → Int32} (hR : TR A b r) (hV : TV r) (h : PtH (vOf I n deal mood) (bOf I n deal mood) r c m p) (hW : WTab A w I n deal mood) (h4 : mI A w 4 = r 7) (hd : w + 12 ≤ b ∨ b + 4 ≤ w) : So (FX8_putDown b (Int32.ofNat c) w A) (fun x => Eo (fun q => b ≤ q ∧ q < b + 4) A x.2 ∧ x.1 = (ptP I n deal mood r c m p).1 ∧ TR x.2 b (ptP I n deal mood r c m p).2) := by
  obtain ⟨l1, l2, l3⟩ := h.line hV
  obtain ⟨va, vs⟩ := hV.vA h vOf_rg.1
  obtain ⟨hc, hp, h9, h14, h13, hm8, hcan⟩ := h
  have e10 : mI A b 10 = Int32.ofNat p := hR.2.2.2.2.2.2.2.2.2.1.trans h14
  have e8 : mI A b 8 = Int32.ofNat m := hR.2.2.2.2.2.2.2.1.trans h13
  have e9 : mI A b 9 = r 12 := hR.2.2.2.2.2.2.2.2.1
  unfold FX8_putDown
  rw [e10]
  refine So_nm (So.bindE (bit_nn hc) (So_nm (So_jn1 ?_)))
  rw [mI_sJ, e8, if_neg (show ¬ (8 : Int32) ≤ Int32.ofNat m from nle (n := 8) l1 (by decide)), nn_ix (by omega)]
  refine So_gd (inb_nn l1 (by decide)) (So_nm (So_nm ?_))
  rw [mI_n1 (a := b + 3) (b := b) (by omega), mI_sJ, e8, s1]
  have t1 := (((hR.gone1 hc).line (v := Int32.ofNat c) l1).fld (f := 8) (k := 13) (v := Int32.ofNat (m + 1)) (by decide))
  generalize hM30 : sI (sI (sJ A b 4 (mJ A b 4 ||| ((1 : Int64) <<< ((Int32.ofNat c).toInt64 &&& 63)))) (b + 3) m (Int32.ofNat c)) b 8 (Int32.ofNat (m + 1)) = M30 at t1
  have E30 : Eo (fun q => b ≤ q ∧ q < b + 4) A M30 := by rw [← hM30]; exact ((Eo_sJ (by omega)).tr (Eo_sI (by omega))).tr (Eo_sI (by omega))
  have v30 : mI M30 b 9 = r 12 := by rw [← hM30]; simp (disch := omega) only [mI_n1, mI_n2, mI_e, mJ_n1, mJ_n2, mJ_e, mI_sJ, mI_sR, mJ_sI, mJ_sR, mR_sI, mR_sJ]; exact e9
  refine So.bindE (valueOf_c hc) ?_
  rw [(E30 (w + 4) (by omega)).1, hW.1 c hc, v30]
  refine So_nm (So_nm ?_)
  have t2 : TR (sI (sI M30 b 9 (r 12 + vOf I n deal mood c)) b 11 (Int32.ofNat p)) b (ptA (vOf I n deal mood) r c m) := by
    have := (t1.fld (f := 9) (k := 12) (v := r 12 + vOf I n deal mood c) (by decide)).fld (f := 11) (k := 15) (v := Int32.ofNat p) (by decide)
    unfold ptA
    rw [h14]
    exact this
  generalize hM10 : sI (sI M30 b 9 (r 12 + vOf I n deal mood c)) b 11 (Int32.ofNat p) = M10 at t2
  have E10 : Eo (fun q => b ≤ q ∧ q < b + 4) A M10 := by rw [← hM10]; exact (E30.tr (Eo_sI (by omega))).tr (Eo_sI (by omega))
  have W10 : WTab M10 w I n deal mood := hW.keep (fun q a b' => E10 q (by omega))
  have hln : LnC M10 b (m + 1) (ptL r m c) := by
    refine ⟨by omega, t2.2.2.2.2.2.2.2.1.trans ptA_13, fun k hk => ?_⟩
    obtain ⟨a1, a2⟩ := ptA_ln (V := vOf I n deal mood) hc l1 l3 hk
    exact ⟨a1, (t2.2.2.2.2.2.2.2.2.2.2.2.2.2.2 k (by omega)).trans a2⟩
  have k9 : mI M10 b 9 = r 12 + vOf I n deal mood c := t2.2.2.2.2.2.2.2.2.1.trans ptA_12
  have k4 : mI M10 w 4 = r 7 := by rw [(E10 w (by omega)).1, h4]
  have hg : FX8_linePegs b w M10 = some (ptG I n deal mood r c m) := by
    rw [linePegs_c W10 hln (by omega), k9, k4]; rfl
  refine So.bindE hg ?_
  rw [one_minus hp]
  refine So.bindE (firstWhoCan_c t2 va (show 1 - p < 2 by omega) W10) (So_nm ?_)
  rw [show 1 - (1 - p) = p by omega]
  have t3 : TR (sI M10 b 10 (tnP (vOf I n deal mood) (bOf I n deal mood) (ptA (vOf I n deal mood) r c m) (Int32.ofNat (1 - p)) (Int32.ofNat p))) b (ptB (vOf I n deal mood) (bOf I n deal mood) (ptA (vOf I n deal mood) r c m) p) := t2.fld (f := 10) (k := 14) (by decide)
  have E13 : Eo (fun q => b ≤ q ∧ q < b + 4) A (sI M10 b 10 (tnP (vOf I n deal mood) (bOf I n deal mood) (ptA (vOf I n deal mood) r c m) (Int32.ofNat (1 - p)) (Int32.ofNat p))) := E10.tr (Eo_sI (by omega))
  generalize sI M10 b 10 (tnP (vOf I n deal mood) (bOf I n deal mood) (ptA (vOf I n deal mood) r c m) (Int32.ofNat (1 - p)) (Int32.ofNat p)) = M13 at t3 E13
  have a9 : ptA (vOf I n deal mood) r c m 9 = 2 := by rw [ptA_o (by omega) (by omega) (by omega) (by omega) (by omega)]; exact h9
  have vb := va.vB (V := vOf I n deal mood) (Bd := bOf I n deal mood) a9 hp
  have fin : ∀ (v : Int32) (N : Mem) (R : Nat → Int32), Eo (fun q => b ≤ q ∧ q < b + 4) A N → TR N b R → ptP I n deal mood r c m p = (v, pgP R p v) → So ((FX8_addPegs b (Int32.ofNat p) v N).bind fun M18 => some (v, M18)) (fun x => Eo (fun q => b ≤ q ∧ q < b + 4) A x.2 ∧ x.1 = (ptP I n deal mood r c m p).1 ∧ TR x.2 b (ptP I n deal mood r c m p).2) := fun v N R hN hTN hP => by
    refine So.bindE (addPegs_c hp) (So.ok ⟨hN.tr (Eo_sI (by omega)), by rw [hP], ?_⟩)
    rw [hP]
    show TR (sI N (b + 2) p (pgM (mI N (b + 2) p) v)) b (pgP R p v)
    unfold pgP
    rw [hTN.sc hp]
    exact hTN.peg hp
  have f10 : mI M13 b 10 = ptB (vOf I n deal mood) (bOf I n deal mood) (ptA (vOf I n deal mood) r c m) p 14 := t3.2.2.2.2.2.2.2.2.2.1
  have f9 : mI M13 b 9 = r 12 + vOf I n deal mood c := t3.2.2.2.2.2.2.2.2.1.trans (by rw [ptB_o (by decide)]; exact ptA_12)
  refine So_jn2 ?_
  rw [f10, f9]
  by_cases z : ptB (vOf I n deal mood) (bOf I n deal mood) (ptA (vOf I n deal mood) r c m) p 14 = -1
  · rw [if_neg (fun y => y z)]
    refine So_jn1R (fun v => v = if r 12 + vOf I n deal mood c = 31 then 0 else 1) (fun v19 h19 => So_nm (So_nm (So_nm ?_))) (fun j20 h20 => ?_)
    · have t4 : TR (sI (sI M13 b 9 0) b 8 0) b (ptC (ptB (vOf I n deal mood) (bOf I n deal mood) (ptA (vOf I n deal mood) r c m) p)) := (t3.fld (f := 9) (k := 12) (by decide)).fld (f := 8) (k := 13) (by decide)
      have E24 : Eo (fun q => b ≤ q ∧ q < b + 4) A (sI (sI M13 b 9 0) b 8 0) := (E13.tr (Eo_sI (by omega))).tr (Eo_sI (by omega))
      generalize sI (sI M13 b 9 0) b 8 0 = M24 at t4 E24
      refine So.bindE (firstWhoCan_c t4 vb.vC (show 1 - p < 2 by omega) (hW.keep (w := w) (fun q a b' => E24 q (by omega)))) (So_nm ?_)
      rw [show 1 - (1 - p) = p by omega]
      refine fin _ _ (ptB (vOf I n deal mood) (bOf I n deal mood) (ptC (ptB (vOf I n deal mood) (bOf I n deal mood) (ptA (vOf I n deal mood) r c m) p)) p) (E24.tr (Eo_sI (by omega))) (t4.fld (f := 10) (k := 14) (by decide)) ?_
      unfold ptP
      rw [if_pos z, h19]
    · by_cases y : r 12 + vOf I n deal mood c = 31
      · rw [if_neg (fun x => x y)]; exact h20 _ (by rw [if_pos y])
      · rw [if_pos y]; exact h20 _ (by rw [if_neg y])
  · rw [if_pos z]
    refine fin _ _ _ E13 t3 ?_
    unfold ptP
    rw [if_neg z]
theorem ptG_rg {I : Nat → CI} {n c m : Nat} {deal mood : Int32} {r : Nat → Int32} (hm : m < 8) : 0 ≤ (ptG I n deal mood r c m).toInt ∧ (ptG I n deal mood r c m).toInt ≤ 5000 := lgP_rg (by omega)
theorem ptP_rg {I : Nat → CI} {n c m p : Nat} {deal mood : Int32} {r : Nat → Int32} (hm : m < 8) : 0 ≤ (ptP I n deal mood r c m p).1.toInt ∧ (ptP I n deal mood r c m p).1.toInt ≤ 6000 := by
  have h := ptG_rg (I := I) (n := n) (c := c) (m := m) (deal := deal) (mood := mood) (r := r) hm
  unfold ptP
  split
  · show 0 ≤ (ptG I n deal mood r c m + _).toInt ∧ (ptG I n deal mood r c m + _).toInt ≤ 6000
    have h2 : 0 ≤ (if r 12 + vOf I n deal mood c = 31 then (0 : Int32) else 1).toInt ∧ (if r 12 + vOf I n deal mood c = 31 then (0 : Int32) else 1).toInt ≤ 1 := by split <;> decide
    rw [i_add (by omega) (by omega)]; omega
  · exact ⟨h.1, by have := h.2; show (ptG I n deal mood r c m).toInt ≤ 6000; omega⟩
theorem TV.vP {I : Nat → CI} {n c m p : Nat} {deal mood : Int32} {r : Nat → Int32} (hV : TV r) (h : PtH (vOf I n deal mood) (bOf I n deal mood) r c m p) : TV (ptP I n deal mood r c m p).2 ∧ m < 8 := by
  obtain ⟨l1, l2, l3⟩ := h.line hV
  obtain ⟨va, vs⟩ := hV.vA h vOf_rg.1
  obtain ⟨hc, hp, h9, h14, h13, hm8, hcan⟩ := h
  have a9 : ptA (vOf I n deal mood) r c m 9 = 2 := by rw [ptA_o (by omega) (by omega) (by omega) (by omega) (by omega)]; exact h9
  have vb := va.vB (V := vOf I n deal mood) (Bd := bOf I n deal mood) a9 hp
  have rg := ptP_rg (I := I) (n := n) (c := c) (m := m) (p := p) (deal := deal) (mood := mood) (r := r) l1
  refine ⟨?_, l1⟩
  unfold ptP at rg ⊢
  by_cases z : ptB (vOf I n deal mood) (bOf I n deal mood) (ptA (vOf I n deal mood) r c m) p 14 = -1
  · rw [if_pos z] at rg ⊢
    refine (vb.vC.vB ?_ hp).peg hp ⟨rg.1, Int.le_trans rg.2 (by decide)⟩
    rw [ptC_o (by decide) (by decide), ptB_o (by decide)]; exact a9
  · rw [if_neg z] at rg ⊢
    exact vb.peg hp ⟨rg.1, Int.le_trans rg.2 (by decide)⟩
