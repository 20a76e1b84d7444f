/-! ===== to show ===== -/
theorem cs_pre {P : Nat → Bool} {i : Nat} (h : i ≤ 52) : ((List.range i).filter P).length ≤ (cs P).length := by
  unfold cs
  rw [show 52 = i + (52 - i) by omega, List.range_add, List.filter_append, List.length_append]; omega
theorem getD_app {l : List Nat} {i k : Nat} : (l ++ [i]).getD k 0 = if k < l.length then l.getD k 0 else if k = l.length then i else 0 := by
  simp only [List.getD_eq_getElem?_getD]
  by_cases h : k < l.length
  · rw [if_pos h, List.getElem?_append_left h]
  · rw [if_neg h, List.getElem?_append_right (by omega)]
    by_cases z : k = l.length
    · rw [if_pos z, z, Nat.sub_self]; rfl
    · rw [if_neg z, List.getElem?_eq_none (by simp; omega)]; rfl
theorem FitW.wv {t u n : Nat} {I : Nat → CI} {A B : Mem} (f : FitW t u n I A B) (hY : 5 ≤ (mI B (u + 2) 7).toInt ∧ (mI B (u + 2) 7).toInt ≤ 31) : ∃ Y, mI B (u + 2) 7 = Int32.ofNat Y ∧ (5 ≤ Y ∧ Y ≤ 31) ∧ WV A (t + 179) (vN I n (mI B (u + 2) 8) (mI B (u + 2) 6)) Y (cN I n (mI B (u + 2) 8) (mI B (u + 2) 6)) := by
  refine ⟨(mI B (u + 2) 7).toInt.toNat, (nn_of (by omega)).symm, by omega, _, _, _, _, f.2.1, ?_, by omega, rfl, rfl⟩
  rw [f.1, nn_of (by omega)]
theorem countAt_r {u n pl s Y : Nat} {I : Nat → CI} {deal mood p : Int32} {B : Mem} (h : RL u n I deal mood B) (hp : pl < 2) (h4 : nAt (mI B (u + 2)) p = 4) (hs : mI B (u + 2) 11 = Int32.ofNat s) (hs2 : s < 52) (hY : mI B (u + 2) 7 = Int32.ofNat Y) (hY2 : Y ≤ 31) : So (FX12_countAt u p (Int32.ofNat pl) B) (fun x => CnE u B x.2 ∧ x.1 = Int32.ofNat (amt (vN I n deal mood) Y (cN I n deal mood pl) pl (w5 (fC (fun c => decide (mI B (u + 2) (18 + c) = p))) s) 0)) := by
  unfold FX12_countAt
  unfold nAt at h4
  generalize hP : (fun c => decide (mI B (u + 2) (18 + c) = p)) = P at h4
  refine So_wl3 (fun v1 v2 N => ∃ i, i ≤ 52 ∧ v2 = Int32.ofNat i ∧ v1 = Int32.ofNat ((List.range i).filter P).length ∧ CnE u B N ∧ ∀ k, k < ((List.range i).filter P).length → mI N (u + 27) k = Int32.ofNat (((List.range i).filter P).getD k 0)) (fun _ v2 _ => 52 - ix v2) ?_ fuel 0 0 B ⟨0, by omega, rfl, rfl, CnE.rf, fun k hk => absurd hk (Nat.not_lt_zero _)⟩ (by unfold fuel; omega)
  rintro v1 v2 N rec ⟨i, hi, rfl, rfl, n1, n2⟩ hr
  have hl := cs_pre (P := P) hi
  by_cases z : i = 52
  · subst z
    rw [if_pos (show (52 : Int32) ≤ Int32.ofNat 52 by decide), n1.row, hs]
    refine So_nm ?_
    have n3 : CnE u B (sI N (u + 27) 4 (Int32.ofNat s)) := n1.tr (CnE_s (by decide))
    refine So.bind (layCounts_r (h.cn n3) hp) (fun M9 h9 => ?_)
    obtain ⟨l1, l2, l3, _⟩ := h9
    have hf : F5 u (w5 (fC P) s) M9 := fun k hk => by
      rw [l3]
      by_cases y : k = 4
      · rw [y, mI_e, w5_4]; exact ⟨hs2, rfl⟩
      · rw [mI_n2 y, w5_l (by omega)]
        exact ⟨(fC_mem (by omega)).1, n2 k (by show k < (cs P).length; omega)⟩
    refine So_bdM (countFive_r l2 hf (fun c => vN_rg.2) (by rw [(n3.tr l1).row]; exact hY) hY2 hp) (fun v K hK => So.ok ⟨(n3.tr l1).tr (CnE.of hK.1 (fun q hq => by omega)), hK.2.1⟩)
  · rw [if_neg (show ¬ (52 : Int32) ≤ Int32.ofNat i from nle (n := 52) (by omega) (by decide)), show (18 : Int32) + Int32.ofNat i = Int32.ofNat (18 + i) from nn_add 18 i, nn_ix (by omega), n1.row]
    refine So_gd (inb_nn (by omega) (by decide)) (So_jn2R (fun a K => a = Int32.ofNat ((List.range (i + 1)).filter P).length ∧ CnE u B K ∧ ∀ k, k < ((List.range (i + 1)).filter P).length → mI K (u + 27) k = Int32.ofNat (((List.range (i + 1)).filter P).getD k 0)) (fun a K hK => So_nm ?_) (fun j hj => ?_))
    · rw [s1]
      exact hr _ _ _ ⟨i + 1, by omega, rfl, hK⟩ (by rw [nn_ix (by omega), nn_ix (by omega)]; omega)
    · have hPi : P i = decide (mI B (u + 2) (18 + i) = p) := by rw [← hP]
      refine So.ite (fun y => hj _ _ ?_) (fun y => ?_)
      · rw [rs_succ, if_neg (by rw [hPi, decide_eq_false y]; decide), List.append_nil]
        exact ⟨rfl, n1, n2⟩
      · have hPt : P i = true := by rw [hPi]; exact decide_eq_true (Classical.not_not.mp y)
        have hl2 := cs_pre (P := P) (show i + 1 ≤ 52 by omega)
        rw [rs_succ, if_pos hPt, List.length_append] at hl2
        have hl2 : ((List.range i).filter P).length + 1 ≤ (cs P).length := hl2
        rw [nn_ix (by omega)]
        refine So_gd (inb_nn (by omega) (by decide)) (So_nm (So_nm (hj _ _ ?_)))
        rw [rs_succ, if_pos hPt, List.length_append, s1]
        refine ⟨rfl, n1.tr (CnE_s (by decide)), fun k hk => ?_⟩
        have hk : k < ((List.range i).filter P).length + 1 := hk
        rw [getD_app]
        by_cases x : k = ((List.range i).filter P).length
        · rw [if_neg (by omega), if_pos x, x, mI_e]
        · rw [if_pos (by omega), mI_n2 x]; exact n2 k (by omega)
theorem TV.show {r : Nat → Int32} (h : TV r) (h9 : r 9 = 2) (h14 : r 14 = -1) : TV (ru r 9 3) := by
  have e : ∀ k, k ≠ 9 → ru r 9 3 k = r k := fun k hk => ru_n hk
  have e9 : ru r 9 3 9 = 3 := ru_e
  have c18 : ∀ p : Int32, cs (fun c => decide (ru r 9 3 (18 + c) = p)) = cs (fun c => decide (r (18 + c) = p)) := fun q => cs18 (fun k a b => e k (by omega)) q
  have c70 := cs70 (r := r) (r' := ru r 9 3) (fun k a b => e k (by omega)) 1
  obtain ⟨h1, h2, h3, h4, h5, h6, h7, h8, h9', h10, h11, h12, h13, h14', h15, h16, h17, h18, h19⟩ := h
  unfold TV
  rw [c18, c18, c18, c70, e9, e 8 (by omega), e 10 (by omega), e 11 (by omega), e 12 (by omega), e 13 (by omega), e 14 (by omega), e 15 (by omega), e 16 (by omega), e 17 (by omega)]
  refine ⟨h1, Or.inr (Or.inr (Or.inr rfl)), h3, h4, h5, ?_, h7, h8, h9', h10, fun c hc => ?_, fun c hc => ?_, fun c hc => ?_, fun c hc z => absurd z (by decide), fun z => absurd z (by decide), fun _ => h16 (by rw [h9]; decide), fun _ => h14, fun z => absurd z (by decide), fun _ => h19 (Or.inl h9)⟩
  · obtain ⟨n, n1, n2, n3, n4⟩ := h6
    exact ⟨n, n1, n2, n3, fun k hk => by rw [e _ (by omega)]; exact n4 k hk⟩
  · rw [e _ (by omega)]; exact h11 c hc
  · rw [e _ (by omega)]; exact h12 c hc
  · rw [e _ (by omega)]; exact h13 c hc
/-- what a hand, the crib counts with the starter -/
def hnd (V : Nat → Nat) (Y : Nat) (C : Nat → Nat → Nat → Nat) (r : Nat → Int32) (p pl : Nat) : Nat := amt V Y (C pl) pl (w5 (fC (fun c => decide (r (18 + c) = Int32.ofNat p))) (ix (r 11))) 0
def shP (V : Nat → Nat) (Y : Nat) (C : Nat → Nat → Nat → Nat) (r : Nat → Int32) (d : Nat) : Nat → Int32 := ru (pgP (pgP r (1 - d) (Int32.ofNat (hnd V Y C r (1 - d) 0))) d (Int32.ofNat (hnd V Y C r d 0 + hnd V Y C r 2 1))) 9 3
def shV (V : Nat → Nat) (Y : Nat) (C : Nat → Nat → Nat → Nat) (r : Nat → Int32) (d : Nat) : Nat := hnd V Y C r (1 - d) 0 + (hnd V Y C r d 0 + hnd V Y C r 2 1)
theorem showAll_c {t b d s Y : Nat} {V : Nat → Nat} {C : Nat → Nat → Nat → Nat} {A : Mem} {r : Nat → Int32} (hR : TR A b r) (hW : WV A (t + 179) V Y C) (hd : d < 2) (h10 : r 10 = Int32.ofNat d) (hs : r 11 = Int32.ofNat s) (hs2 : s < 52) (h0 : nAt r 0 = 4) (h1 : nAt r 1 = 4) (h2 : nAt r 2 = 4) (hb : b + 4 ≤ t + 179) : So (FX11_showAll t b A) (fun x => Eo (fun q => (b ≤ q ∧ q < b + 4) ∨ (t + 203 ≤ q ∧ q < t + 209)) A x.2 ∧ x.1 = Int32.ofNat (shV V Y C r d) ∧ TR x.2 b (shP V Y C r d)) := by
  have hn : ∀ q, q < 2 → (cs (fun c => decide (r (18 + c) = Int32.ofNat q))).length = 4 := fun q hq => by
    obtain rfl | rfl : q = 0 ∨ q = 1 := by omega
    · exact h0
    · exact h1
  have e6 : mI A b 6 = Int32.ofNat d := hR.2.2.2.2.2.1.trans h10
  have e7 : mI A b 7 = Int32.ofNat s := hR.2.2.2.2.2.2.1.trans hs
  have hx : ix (r 11) = s := by rw [hs, nn_ix (by omega)]
  unfold FX11_showAll
  rw [e6, one_minus hd]
  refine So_nm (So.bindE (handOf_c (show 1 - d < 2 by omega)) (So.bind (take_c (b := t + 203) (pl := 0) (by omega) hW (by decide) (hR.own (show 1 - d < 2 by omega)) (hn _ (by omega))) (fun M5 h5 => ?_)))
  obtain ⟨a1, a2⟩ := h5
  have kR : ∀ N, Eo (fun q => t + 203 ≤ q ∧ q < t + 203 + 6) A N → TR N b r ∧ WV N (t + 179) V Y C ∧ mI N b 6 = Int32.ofNat d ∧ mI N b 7 = Int32.ofNat s := fun N hN => ⟨hR.keep (hN _ (by omega)) (hN _ (by omega)) (hN _ (by omega)) (hN _ (by omega)), hW.keep (fun q x y => hN q (by omega)), by rw [(hN b (by omega)).1]; exact e6, by rw [(hN b (by omega)).1]; exact e7⟩
  obtain ⟨b1, b2, b3, b4⟩ := kR M5 a1
  rw [b4, b3]
  refine So.bindE (part_c (wh := 0) b2 (by decide) (hn _ (by omega)) a2 hs2 (by decide)) (So.bindE (handOf_c hd) (So.bind (take_c (b := t + 203) (pl := 0) (by omega) b2 (by decide) (b1.own hd) (hn _ hd)) (fun M11 h11 => ?_)))
  obtain ⟨c1, c2⟩ := h11
  have c1 := a1.tr c1
  obtain ⟨d1, d2, d3, d4⟩ := kR M11 c1
  rw [d4]
  refine So.bindE (part_c (wh := 0) d2 (by decide) (hn _ hd) c2 hs2 (by decide)) (So.bind (take_c (b := t + 203) (pl := 1) (by omega) d2 (by decide) d1.2.2.1 h2) (fun M16 h16 => ?_))
  obtain ⟨f1, f2⟩ := h16
  have f1 := c1.tr f1
  obtain ⟨g1, g2, g3, g4⟩ := kR M16 f1
  rw [g4]
  refine So.bindE (part_c (wh := 0) g2 (by decide) h2 f2 hs2 (by decide)) (So_nm (So.bindE (addPegs_c (show 1 - d < 2 by omega)) ?_))
  rw [mI_n1 (by omega), g3]
  refine So.bindE (addPegs_c hd) (So_nm (So.ok ⟨((((f1.up (fun q hq => Or.inr hq)).tr (Eo_sI (Or.inl (by omega)))).tr (Eo_sI (Or.inl (by omega)))).tr (Eo_sI (Or.inl (by omega)))), ?_, ?_⟩))
  · rw [nn_add, nn_add]
    unfold shV hnd
    rw [hx]; rfl
  · show TR (sI (sI (sI M16 (b + 2) (1 - d) _) (b + 2) d _) b 5 3) b _
    have t1 := g1.peg (v := pgM (mI M16 (b + 2) (1 - d)) (Int32.ofNat (hnd V Y C r (1 - d) 0))) (show 1 - d < 2 by omega)
    have t2 := t1.peg (v := pgM (mI (sI M16 (b + 2) (1 - d) (pgM (mI M16 (b + 2) (1 - d)) (Int32.ofNat (hnd V Y C r (1 - d) 0)))) (b + 2) d) (Int32.ofNat (hnd V Y C r d 0 + hnd V Y C r 2 1))) hd
    have t3 := t2.fld (f := 5) (k := 9) (v := 3) (by decide)
    rw [t1.sc hd, g1.sc (show 1 - d < 2 by omega)] at t3
    rw [nn_add, g1.sc (show 1 - d < 2 by omega)]
    unfold shP pgP
    have e1 : (mI (sI M16 (b + 2) (1 - d) (pgM (r (16 + (1 - d))) (Int32.ofNat (hnd V Y C r (1 - d) 0)))) (b + 2) d) = ru r (16 + (1 - d)) (pgM (r (16 + (1 - d))) (Int32.ofNat (hnd V Y C r (1 - d) 0))) (16 + d) := by
      have := t1.sc hd
      rw [g1.sc (show 1 - d < 2 by omega)] at this
      exact this
    have hh : ∀ p pl, amt V Y (C pl) pl (w5 (fC (fun c => decide (r (18 + c) = Int32.ofNat p))) s) 0 = hnd V Y C r p pl := fun p pl => by unfold hnd; rw [hx]
    rw [hh, hh, show amt V Y (C 1) 1 (w5 (fC (fun c => decide (r (18 + c) = 2))) s) 0 = hnd V Y C r 2 1 from hh 2 1, e1]
    exact t3
theorem hnd_le {V : Nat → Nat} {Y : Nat} {C : Nat → Nat → Nat → Nat} {r : Nat → Int32} {p pl : Nat} (h : ∀ a b c, C a b c ≤ 99) : hnd V Y C r p pl ≤ 400000 := amt_le (fun k i => h pl k i) 0
theorem shP_TV {V : Nat → Nat} {Y d : Nat} {C : Nat → Nat → Nat → Nat} {r : Nat → Int32} (hV : TV r) (hc : ∀ a b c, C a b c ≤ 99) (h9 : r 9 = 2) (h14 : r 14 = -1) (hd : d < 2) : TV (shP V Y C r d) := by
  have l0 := hnd_le (V := V) (Y := Y) (r := r) (p := 1 - d) (pl := 0) hc
  have l1 := hnd_le (V := V) (Y := Y) (r := r) (p := d) (pl := 0) hc
  have l2 := hnd_le (V := V) (Y := Y) (r := r) (p := 2) (pl := 1) hc
  have v1 := hV.peg (p := 1 - d) (y := Int32.ofNat (hnd V Y C r (1 - d) 0)) (by omega) (by rw [nn_int (by omega)]; omega)
  have v2 := v1.peg (p := d) (y := Int32.ofNat (hnd V Y C r d 0 + hnd V Y C r 2 1)) hd (by rw [nn_int (by omega)]; omega)
  refine v2.show ?_ ?_
  · rw [pgP_o hd (by decide) (by decide), pgP_o (by omega) (by decide) (by decide)]; exact h9
  · rw [pgP_o hd (by decide) (by decide), pgP_o (by omega) (by decide) (by decide)]; exact h14
theorem shP_out {V : Nat → Nat} {Y d k : Nat} {C : Nat → Nat → Nat → Nat} {r : Nat → Int32} (hd : d < 2) (hk : k < 9 ∨ (18 ≤ k)) : shP V Y C r d k = r k := by
  unfold shP
  rw [ru_n (by omega), pgP_o hd (by omega) (by omega), pgP_o (by omega) (by omega) (by omega)]

