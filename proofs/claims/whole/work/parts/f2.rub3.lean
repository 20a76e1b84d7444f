/-! ===== rubbers: pegs never fall ===== -/
def PM (r r' : Nat → Int32) : Prop := (r 16).toInt ≤ (r' 16).toInt ∧ (r 17).toInt ≤ (r' 17).toInt
theorem PM.rf {r : Nat → Int32} : PM r r := ⟨Int.le_refl _, Int.le_refl _⟩
theorem PM.tr {r r' r2 : Nat → Int32} (h : PM r r') (h2 : PM r' r2) : PM r r2 := ⟨Int.le_trans h.1 h2.1, Int.le_trans h.2 h2.2⟩
theorem PM.of {r r' : Nat → Int32} (h : r' 16 = r 16) (h2 : r' 17 = r 17) : PM r r' := by unfold PM; rw [h, h2]; exact PM.rf
theorem pgM_ge {x y : Int32} (hx : 0 ≤ x.toInt ∧ x.toInt ≤ 9999) (hy : 0 ≤ y.toInt ∧ y.toInt ≤ 1000000) : x.toInt ≤ (pgM x y).toInt := by
  have hs : (x + y).toInt = x.toInt + y.toInt := i_add (by omega) (by omega)
  unfold pgM imn
  split
  · omega
  · show x.toInt ≤ (9999 : Int32).toInt
    rw [show (9999 : Int32).toInt = 9999 from rfl]; omega
theorem PM.peg {r : Nat → Int32} {p : Nat} {y : Int32} (h16 : 0 ≤ (r 16).toInt ∧ (r 16).toInt ≤ 9999) (h17 : 0 ≤ (r 17).toInt ∧ (r 17).toInt ≤ 9999) (hp : p < 2) (hy : 0 ≤ y.toInt ∧ y.toInt ≤ 1000000) : PM r (pgP r p y) := by
  unfold PM pgP
  obtain rfl | rfl : p = 0 ∨ p = 1 := by omega
  · exact ⟨by rw [show (16 + 0) = 16 from rfl, ru_e]; exact pgM_ge h16 hy, by rw [ru_n (by decide)]; exact Int.le_refl _⟩
  · exact ⟨by rw [ru_n (by decide)]; exact Int.le_refl _, by rw [show (16 + 1) = 17 from rfl, ru_e]; exact pgM_ge h17 hy⟩
theorem TV.p16 {r : Nat → Int32} (h : TV r) : (0 ≤ (r 16).toInt ∧ (r 16).toInt ≤ 9999) ∧ (0 ≤ (r 17).toInt ∧ (r 17).toInt ≤ 9999) := ⟨h.2.2.2.2.2.2.2.2.1, h.2.2.2.2.2.2.2.2.2.1⟩
theorem PM_ly {V : Nat → Int32} {Bd : Nat → Bool} {r : Nat → Int32} {c : Nat} (h : TV r) (hc : c < 52) : PM r (lyP V Bd r c) := by
  obtain ⟨h16, h17⟩ := h.p16
  have hd := h.2.2.1
  have e : ∀ k, k = 10 ∨ k = 16 ∨ k = 17 → lyB (ru r (18 + c) 2) k = r k := fun k hk => by rw [lyB_at (by omega) (by omega) (by omega) (by omega) (by omega), ru_n (by omega)]
  unfold lyP
  split
  · unfold lyD
    refine PM.tr (r' := lyC (lyB (ru r (18 + c) 2))) ?_ (PM.of (ru_n (by decide)) (ru_n (by decide)))
    unfold lyC
    split
    · have p2 : ix (lyB (ru r (18 + c) 2) 10) < 2 := by
        rw [e 10 (by omega)]
        rcases hd with z | z <;> rw [z] <;> decide
      refine PM.tr (PM.of (e 16 (by omega)) (e 17 (by omega))) (PM.peg (by rw [e 16 (by omega)]; exact h16) (by rw [e 17 (by omega)]; exact h17) p2 (by decide))
    · exact PM.of (e 16 (by omega)) (e 17 (by omega))
  · exact PM.of (ru_n (by omega)) (ru_n (by omega))
theorem PM_pl {I : Nat → CI} {n : Nat} {deal mood : Int32} {r : Nat → Int32} (h : GO r) (h14 : r 14 ≠ -1) {c : Nat} (hc : c ∈ plL I n deal mood r) : PM r (plN I n deal mood r c).2 := by
  have hp := h.pt h14 hc
  obtain ⟨v1, v2⟩ := h.1.vP hp
  obtain ⟨h16, h17⟩ := h.1.p16
  have rg := ptP_rg (I := I) (n := n) (c := c) (m := ix (r 13)) (p := ix (r 14)) (deal := deal) (mood := mood) (r := r) v2
  obtain ⟨c52, p2, h9, _⟩ := hp
  unfold plN
  generalize ix (r 13) = m at *
  generalize ix (r 14) = p at *
  unfold ptP at rg ⊢
  by_cases z : ptB (vOf I n deal mood) (bOf I n deal mood) (ptA (vOf I n deal mood) r c m) p 14 = -1
  · rw [if_pos z] at rg ⊢
    have e : ∀ k, k = 16 ∨ k = 17 → ptB (vOf I n deal mood) (bOf I n deal mood) (ptC (ptB (vOf I n deal mood) (bOf I n deal mood) (ptA (vOf I n deal mood) r c m) p)) p k = r k := fun k hk => by
      rw [ptB_o (by omega), ptC_o (by omega) (by omega), ptB_o (by omega), ptA_o (by omega) (by omega) (by omega) (by omega) (by omega)]
    exact PM.tr (PM.of (e 16 (by omega)) (e 17 (by omega))) (PM.peg (by rw [e 16 (by omega)]; exact h16) (by rw [e 17 (by omega)]; exact h17) p2 ⟨rg.1, Int.le_trans rg.2 (by decide)⟩)
  · rw [if_neg z] at rg ⊢
    have e : ∀ k, k = 16 ∨ k = 17 → ptB (vOf I n deal mood) (bOf I n deal mood) (ptA (vOf I n deal mood) r c m) p k = r k := fun k hk => by
      rw [ptB_o (by omega), ptA_o (by omega) (by omega) (by omega) (by omega) (by omega)]
    exact PM.tr (PM.of (e 16 (by omega)) (e 17 (by omega))) (PM.peg (by rw [e 16 (by omega)]; exact h16) (by rw [e 17 (by omega)]; exact h17) p2 ⟨rg.1, Int.le_trans rg.2 (by decide)⟩)
theorem PM_E {I : Nat → CI} {n : Nat} {deal mood : Int32} : ∀ (k : Nat) (r : Nat → Int32), GO r → (r 14 = -1 ∨ plL I n deal mood r ≠ []) → PM r (plE I n deal mood k r)
  | 0, _, _, _ => PM.rf
  | k + 1, r, hG, hne => by
    show PM r (if r 14 = -1 then r else _)
    by_cases z : r 14 = -1
    · rw [if_pos z]; exact PM.rf
    · rw [if_neg z]
      have hc := plL_0 (hne.resolve_left z)
      obtain ⟨g1, g2, g3, g4, g5, g6⟩ := hG.next z hc
      exact (PM_pl hG z hc).tr (PM_E k _ g1 g6)
theorem PM_sh {V : Nat → Nat} {Y d : Nat} {C : Nat → Nat → Nat → Nat} {r : Nat → Int32} (h : TV r) (hc : ∀ a b c, C a b c ≤ 99) (hd : d < 2) : PM r (shP V Y C r d) := by
  have l0 := hnd_le (V := V) (Y := Y) (r := r) (p := 1 - d) (pl := 0) hc
  have l1 := hnd_le (V := V) (Y := Y) (r := r) (p := d) (pl := 0) hc
  have l2 := hnd_le (V := V) (Y := Y) (r := r) (p := 2) (pl := 1) hc
  have a1 : 0 ≤ (Int32.ofNat (hnd V Y C r (1 - d) 0)).toInt ∧ (Int32.ofNat (hnd V Y C r (1 - d) 0)).toInt ≤ 1000000 := by rw [nn_int (by omega)]; omega
  have a2 : 0 ≤ (Int32.ofNat (hnd V Y C r d 0 + hnd V Y C r 2 1)).toInt ∧ (Int32.ofNat (hnd V Y C r d 0 + hnd V Y C r 2 1)).toInt ≤ 1000000 := by rw [nn_int (by omega)]; omega
  obtain ⟨h16, h17⟩ := h.p16
  have v1 := h.peg (p := 1 - d) (by omega) a1
  obtain ⟨w16, w17⟩ := v1.p16
  unfold shP
  exact ((PM.peg h16 h17 (by omega) a1).tr (PM.peg w16 w17 hd a2)).tr (PM.of (ru_n (by decide)) (ru_n (by decide)))
/-- the row behind a rubber -/
def rubR (I : Nat → CI) (n Y : Nat) (r : Nat → Int32) (s : Nat) : Nat → Int32 :=
  shP (vN I n (r 8 + 1) (r 6)) Y (cN I n (r 8 + 1) (r 6)) (plE I n (r 8 + 1) (r 6) 8 (ru4 (vOf I n (r 8 + 1) (r 6)) (bOf I n (r 8 + 1) (r 6)) (dlR r s (1 - ix (r 10))) (1 - ix (r 10)))) (1 - ix (r 10))
theorem rubR_f {I : Nat → CI} {n Y : Nat} {r : Nat → Int32} {s : Nat} (hV : TV r) (h8 : (r 8).toInt < 999) : TV (rubR I n Y r s) ∧ (∀ k, k < 8 ∨ 130 ≤ k → rubR I n Y r s k = r k) ∧ PM r (rubR I n Y r s) := by
  have hd : 1 - ix (r 10) < 2 := by omega
  unfold rubR
  generalize 1 - ix (r 10) = d at *
  generalize r 8 + 1 = deal
  generalize r 6 = mood
  obtain ⟨⟨a1, a2, a3⟩, ⟨b1, b2, b3⟩, ⟨c1, c2, c3⟩, ⟨d1, d2, d3⟩, ⟨g1, g2, g3⟩⟩ := ru4_f (V := vOf I n deal mood) (Bd := bOf I n deal mood) (s := s) hd hV h8
  obtain ⟨p1, p2, p3⟩ := plE_f (I := I) (n := n) (deal := deal) (mood := mood) 8 _ g1 g2 g1.unp8
  have hc : ∀ a b c, cN I n deal mood a b c ≤ 99 := fun a b c => cN_le
  refine ⟨shP_TV p1.1 hc p1.2 p2 hd, fun k hk => ?_, ?_⟩
  · rw [shP_out hd (by omega), p3 k (by omega), g3 k (by omega), dlR_o (by omega)]
  · have m1 : PM r (dlR r s d) := PM.of (dlR_o (by omega)) (dlR_o (by omega))
    have step : ∀ (R : Nat → Int32) (p : Nat), TV R → 1 ≤ nAt R (Int32.ofNat p) → PM R (ly1 (vOf I n deal mood) (bOf I n deal mood) R p) := fun R p h1 h2 => PM_ly h1 (tpC_in h2).1
    have m2 := step _ (1 - d) a1 (by omega)
    have m3 := step _ (1 - d) b1 (by omega)
    have m4 := step _ d c1 (by omega)
    have m5 := step _ d d1 (by omega)
    have m6 : PM r (ru4 (vOf I n deal mood) (bOf I n deal mood) (dlR r s d) d) := (((m1.tr m2).tr m3).tr m4).tr m5
    exact (m6.tr (PM_E 8 _ g1 g2)).tr (PM_sh p1.1 hc hd)
/-- some rubbers -/
def rbF (I : Nat → CI) (n Y : Nat) : Nat → (Nat → Int32) → Nat → (Nat → Int32)
  | 0, r, _ => r
  | q + 1, r, s => if 999 ≤ (r 8).toInt then r else rbF I n Y q (rubR I n Y r s) (dlS s 13).2
theorem rbF_f {I : Nat → CI} {n Y : Nat} : ∀ (q : Nat) (r : Nat → Int32) (s : Nat), TV r → TV (rbF I n Y q r s) ∧ PM r (rbF I n Y q r s)
  | 0, _, _, h => ⟨h, PM.rf⟩
  | q + 1, r, s, h => by
    show TV (if 999 ≤ (r 8).toInt then r else _) ∧ PM r (if 999 ≤ (r 8).toInt then r else _)
    by_cases z : 999 ≤ (r 8).toInt
    · rw [if_pos z]; exact ⟨h, PM.rf⟩
    · rw [if_neg z]
      obtain ⟨a, _, b⟩ := rubR_f (I := I) (n := n) (Y := Y) (s := s) h (by omega)
      obtain ⟨c, d⟩ := rbF_f (I := I) (n := n) (Y := Y) q _ (dlS s 13).2 a
      exact ⟨c, b.tr d⟩
def RbE (u : Nat) (M N : Mem) : Prop := Eo (fun q => q = u ∨ q = u + 2 ∨ q = u + 18 ∨ (u + 20 ≤ q ∧ q < u + 32)) M N ∧ (∀ k, k ≠ 34 → k ≠ 38 → mI N u k = mI M u k) ∧ ∀ k, k < 8 ∨ 130 ≤ k → mI N (u + 2) k = mI M (u + 2) k
theorem RbE.rf {u : Nat} {M : Mem} : RbE u M M := ⟨Eo.rf, fun _ _ _ => rfl, fun _ _ => rfl⟩
theorem RbE.tr {u : Nat} {M N K : Mem} (h : RbE u M N) (h2 : RbE u N K) : RbE u M K := ⟨h.1.tr h2.1, fun k a b => (h2.2.1 k a b).trans (h.2.1 k a b), fun k a => (h2.2.2 k a).trans (h.2.2 k a)⟩
/-- a rubber of the reference -/
theorem rubber_r {u n s Y : Nat} {I : Nat → CI} {B : Mem} {r : Nat → Int32} (hr : mI B (u + 2) = r) (hL : LwI r (r 2) n I) (h20 : mI B u 20 = 0) (hV : TV r) (h8 : (r 8).toInt < 999) (hs : s ≤ 1000003) (h50 : mJ B u 50 = Int64.ofNat s) (hY : r 7 = Int32.ofNat Y) (hY2 : Y ≤ 31) : ∃ B1 B2 B3 B4 v B5, FX12_dealIt u B = some B1 ∧ FX12_layHighest u (1 - mI B1 (u + 2) 10) B1 = some B2 ∧ FX12_layHighest u (mI B2 (u + 2) 10) B2 = some B3 ∧ FX12_playLowest u B3 = some B4 ∧ FX12_showIt u B4 = some (v, B5) ∧ RbE u B B5 ∧ mI B5 (u + 2) = rubR I n Y r s ∧ mJ B5 u 50 = Int64.ofNat (dlS s 13).2 := by
  obtain ⟨d0, e1, e2⟩ := pl_nn hV.2.2.1
  have ix10 : ix (r 10) = d0 := by rw [e2, nn_ix (by omega)]
  obtain ⟨B1, b1, b2, b3⟩ := dealIt_r (u := u) (s := s) (d0 := d0) (d := 1 - d0) (M := B) hs e1 rfl (by rw [hr]; exact e2) h50
  have r1 : mI B1 (u + 2) = dlR r s (1 - d0) := by rw [dlR_row b2, hr]
  have hd : 1 - d0 < 2 := by omega
  have dd : 1 - (1 - d0) = d0 := by omega
  have rl1 : RL u n I (r 8 + 1) (r 6) B1 := by
    refine ⟨?_, by rw [b2.2.1]; exact h20, by rw [r1]; rfl, by rw [r1, dlR_o (by omega)]⟩
    rw [r1, dlR_o (by omega)]
    rcases hL with z | ⟨i, len, x1, x2, x3⟩
    · exact Or.inl z
    · exact Or.inr ⟨i, len, x1, x2, x3.row (fun k _ _ => dlR_o (by omega))⟩
  obtain ⟨⟨a1, a2, a3⟩, ⟨c1, c2, c3⟩, ⟨d1, d2, d3⟩, ⟨f1, f2, f3⟩, ⟨g1, g2, g3⟩⟩ := ru4_f (V := vOf I n (r 8 + 1) (r 6)) (Bd := bOf I n (r 8 + 1) (r 6)) (s := s) hd hV h8
  obtain ⟨B2, l1, l2, l3, l4⟩ := layHighest_r (p := 1 - (1 - d0)) rl1 (by omega) (by rw [r1]; exact ⟨a1, a2, a3⟩) (by rw [r1]; exact ⟨c1, c2, c3⟩)
  rw [r1] at l3
  obtain ⟨B3, m1, m2, m3, m4⟩ := layHighest_r (p := 1 - d0) l4 hd (by rw [l3]; exact ⟨d1, d2, d3⟩) (by rw [l3]; exact ⟨f1, f2, f3⟩)
  rw [l3] at m3
  have m3 : mI B3 (u + 2) = ru4 (vOf I n (r 8 + 1) (r 6)) (bOf I n (r 8 + 1) (r 6)) (dlR r s (1 - d0)) (1 - d0) := m3
  obtain ⟨B4, q1, q2, q3⟩ := playLowest_r m4 m3 g1 g2
  obtain ⟨p1, p2, p3⟩ := plE_f (I := I) (n := n) (deal := r 8 + 1) (mood := r 6) 8 _ g1 g2 g1.unp8
  have rl4 : RL u n I (r 8 + 1) (r 6) B4 := m4.rw q2 (fun k hk => by rw [q3, m3, p3 k (by omega)])
  obtain ⟨n0, n1, n2⟩ := p1.1.2.2.2.2.2.2.2.2.2.2.2.2.2.2.2.2.2.2 (Or.inl p1.2)
  have hs52 := (dlC_in (s0 := s) (i := 12) (by omega)).1
  obtain ⟨⟨v, B5⟩, w1, w2, w3, w4⟩ := showIt_r (d := 1 - d0) (s := dlC s 12) (Y := Y) rl4 (by rw [q3]; exact p1.1) hd (by rw [q3, p3 10 (by omega), g3 10 (by omega)]; rfl) (by rw [q3, p3 11 (by omega), g3 11 (by omega)]; rfl) hs52 (by rw [q3, p3 7 (by omega), g3 7 (by omega), dlR_o (by omega)]; exact hY) hY2 (by rw [q3]; exact n0) (by rw [q3]; exact n1) (by rw [q3]; exact n2)
  have w2 : ShE u B4 B5 := w2
  have w4 : mI B5 (u + 2) = _ := w4
  rw [q3] at w4
  have r10 : mI B1 (u + 2) 10 = Int32.ofNat (1 - d0) := by rw [r1]; rfl
  have r10' : mI B2 (u + 2) 10 = Int32.ofNat (1 - d0) := by
    have x := (ly1_f (V := vOf I n (r 8 + 1) (r 6)) (Bd := bOf I n (r 8 + 1) (r 6)) a1 a2 (show 1 - (1 - d0) < 2 by omega) (by omega)).2.1 10 (by omega)
    have y := (ly1_f (V := vOf I n (r 8 + 1) (r 6)) (Bd := bOf I n (r 8 + 1) (r 6)) c1 c2 (show 1 - (1 - d0) < 2 by omega) (by omega)).2.1 10 (by omega)
    rw [l3, y, x]; rfl
  have fin : mI B5 (u + 2) = rubR I n Y r s := by rw [w4]; unfold rubR; rw [ix10]
  have hout := (rubR_f (I := I) (n := n) (Y := Y) (s := s) hV h8).2.1
  refine ⟨B1, B2, B3, B4, v, B5, b1, by rw [r10, one_minus hd]; exact l1, by rw [r10']; exact m1, q1, w1, ⟨?_, ?_, ?_⟩, fin, ?_⟩
  · exact ((((b2.1.up (fun q hq => by omega)).tr (l2.1.up (fun q hq => by omega))).tr (m2.1.up (fun q hq => by omega))).tr (q2.1.up (fun q hq => by omega))).tr w2.1
  · intro k k1 k2
    rw [w2.2.1 k k1 k2, q2.2.1 k k1 k2, m2.2.1 k k1 k2, l2.2.1 k k1 k2, b2.2.1]
  · intro k hk
    rw [fin, hr]; exact hout k hk
  · rw [w2.2.2 50 (by decide) (by decide), q2.2.2 50 (by decide) (by decide), m2.2.2 50 (by decide) (by decide), l2.2.2 50 (by decide) (by decide), b3]
/-- a rubber of the class -/
theorem lawAt_eq {b : Nat} {f : Int32} {M N : Mem} (e : Ea M N b) (e7 : Ea M N (b + 7)) : FX6_lawAt b f N = FX6_lawAt b f M := by
  unfold FX6_lawAt
  rw [e.1, e7.2.2.1]
theorem rubber_cl {Λ : Lam} {t u T s Y : Nat} {x : Option Nat} {A : Mem} {r0 r : Nat → Int32} (h : InvL Λ t u T A) (hr0 : mI A (u + 2) = r0) (hx : FX6_lawAt (t + 1) (mI A (t + 1) 8) A = some x) (hR : TR A (t + 167) r) (hV : TV r) (h8 : (r 8).toInt < 999) (hs : s ≤ 1000003) (h6 : r 6 = r0 6) (h7 : r 7 = r0 7) (hY : r 7 = Int32.ofNat Y) (hY2 : Y ≤ 31) : ∃ A1 A2 A3, FX8_dealOut (t + 167) (Int32.ofNat s) A = some (Int32.ofNat (dlS s 13).2, A1) ∧ FX10_fit (t + 179) (t + 1) (mI A1 (t + 1) 8) (t + 167) A1 = some A2 ∧ FX11_playRubber t A2 = some A3 ∧ InvL Λ t u T A3 ∧ Eo (fun q => (t + 167 ≤ q ∧ q < t + 171) ∨ (t + 179 ≤ q ∧ q < t + 191) ∨ (t + 203 ≤ q ∧ q < t + 209)) A A3 ∧ TR A3 (t + 167) (rubR (LOf Λ x).2 (LOf Λ x).1 Y r s) := by
  have hu := h.1
  obtain ⟨d0, e1, e2⟩ := pl_nn hV.2.2.1
  have ix10 : ix (r 10) = d0 := by rw [e2, nn_ix (by omega)]
  obtain ⟨⟨s', A1⟩, a1, a2, a3⟩ := dealOut_c (b := t + 167) (s := s) (M := A) hs e1 rfl (hR.2.2.2.2.2.1.trans e2)
  have a2 : s' = _ := a2
  have a3 : DoE (t + 167) s (1 - d0) A A1 := a3
  subst a2
  have t1 : TR A1 (t + 167) (dlR r s (1 - d0)) := dlR_TR (by omega) a3 hR
  have i1 : InvL Λ t u T A1 := h.scr (a3.1.up (fun q hq => by omega))
  have r1 : mI A1 (u + 2) = r0 := by rw [(a3.1 (u + 2) (by omega)).1, hr0]
  have x1 : FX6_lawAt (t + 1) (mI A1 (t + 1) 8) A1 = some x := by
    rw [lawAt_eq (a3.1 (t + 1) (by omega)) (a3.1 (t + 1 + 7) (by omega)), (a3.1 (t + 1) (by omega)).1]; exact hx
  obtain ⟨nl, c1, c2, c3, c4, c5, c6⟩ := i1.2.2.1.2.2.2.2.1
  obtain ⟨x', y1, y2, y3⟩ := SRl.law c1 c2 c6 c5
  rw [← c4, x1] at y1
  obtain rfl := Option.some.inj y1
  obtain ⟨A2, n1, n2, n3, n4, n5⟩ := fit_c (w := t + 179) (b := t + 1) (p := t + 167) (by omega) (by omega) (by omega) i1.2.2.2.2.2.2.2.1 x1 y2
  have i2 : InvL Λ t u T A2 := i1.worth (Or.inl rfl) n2 n3
  have e12 : mI A1 (t + 167) 12 = r 8 + 1 := t1.2.2.2.2.2.2.2.2.2.2.2.1
  have q6 : mI A1 (t + 1 + 8) 1 = r 6 := by
    have : mI A1 (t + 1 + 8) 1 = mI A1 (u + 2) 6 := i1.2.2.1.2.2.2.2.2.2.1
    rw [this, r1, h6]
  have q7 : mI A1 (t + 1 + 8) 2 = r 7 := by
    have : mI A1 (t + 1 + 8) 2 = mI A1 (u + 2) 7 := i1.2.2.1.2.2.2.2.2.2.2.1
    rw [this, r1, h7]
  rw [e12, q6] at n5
  rw [q7] at n4
  have t2 : TR A2 (t + 167) (dlR r s (1 - d0)) := t1.keep (n2 _ (by omega)) (n2 _ (by omega)) (n2 _ (by omega)) (n2 _ (by omega))
  obtain ⟨A3, p1, p2, p3⟩ := playRubber_c (t := t) (n := (LOf Λ x).1) (d := 1 - d0) (s := s) (Y := Y) (I := (LOf Λ x).2) (deal := r 8 + 1) (mood := r 6) (by omega) hV h8 t2 n5 n4 hY hY2
  refine ⟨A1, A2, A3, a1, n1, p1, i2.scr (p2.up (fun q hq => by omega)), ((a3.1.up (fun q hq => by omega)).tr (n2.up (fun q hq => by omega))).tr (p2.up (fun q hq => by omega)), ?_⟩
  unfold rubR
  rw [ix10]; exact p3
