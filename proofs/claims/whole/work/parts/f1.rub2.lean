/-! ===== a rubber on both sides ===== -/
def lyS (V : Nat → Int32) (Bd : Nat → Bool) (r : Nat → Int32) (d : Nat) : Nat → Nat → Int32
  | 0 => r
  | i + 1 => ly1 V Bd (lyS V Bd r d i) (if i < 2 then 1 - d else d)
theorem lyS_f {V : Nat → Int32} {Bd : Nat → Bool} {r : Nat → Int32} {s d : Nat} (hd : d < 2) (hV : TV r) (h8 : (r 8).toInt < 999) {i : Nat} (hi : i < 4) : TV (lyS V Bd (dlR r s d) d i) ∧ lyS V Bd (dlR r s d) d i 9 = 1 ∧ 5 ≤ nAt (lyS V Bd (dlR r s d) d i) (Int32.ofNat (if i < 2 then 1 - d else d)) := by
  obtain ⟨⟨a1, a2, a3⟩, ⟨b1, b2, b3⟩, ⟨c1, c2, c3⟩, ⟨d1, d2, d3⟩, _⟩ := ru4_f (V := V) (Bd := Bd) (s := s) hd hV h8
  obtain rfl | rfl | rfl | rfl : i = 0 ∨ i = 1 ∨ i = 2 ∨ i = 3 := by omega
  · exact ⟨a1, a2, by show 5 ≤ nAt (dlR r s d) (Int32.ofNat (1 - d)); omega⟩
  · exact ⟨b1, b2, by show 5 ≤ nAt (ly1 V Bd (dlR r s d) (1 - d)) (Int32.ofNat (1 - d)); omega⟩
  · exact ⟨c1, c2, by show 5 ≤ nAt (ly1 V Bd (ly1 V Bd (dlR r s d) (1 - d)) (1 - d)) (Int32.ofNat d); omega⟩
  · exact ⟨d1, d2, by show 5 ≤ nAt (ly1 V Bd (ly1 V Bd (ly1 V Bd (dlR r s d) (1 - d)) (1 - d)) d) (Int32.ofNat d); omega⟩
theorem highest_c {x : Int64} {P : Nat → Bool} (h : Bs x P) (h1 : 1 ≤ (cs P).length) : FX11_highest x = some (Int32.ofNat (fC P ((cs P).length - 1))) := by
  have hl := cs_le P
  unfold FX11_highest
  rw [ob h.count, show Int32.ofNat (cs P).length - 1 = Int32.ofNat ((cs P).length - 1) from nn_sub (b := 1) h1 (by omega), ob (h.at (show (cs P).length - 1 < 52 by omega)), fC_at (by omega)]
theorem playRubber_c {t n d s Y : Nat} {I : Nat → CI} {deal mood : Int32} {A : Mem} {r : Nat → Int32} (hd : d < 2) (hV : TV r) (h8 : (r 8).toInt < 999) (hR : TR A (t + 167) (dlR r s d)) (hW : WTab A (t + 179) I n deal mood) (h4 : mI A (t + 179) 4 = r 7) (hY : r 7 = Int32.ofNat Y) (hY2 : Y ≤ 31) : So (FX11_playRubber t A) (fun N => Eo (fun q => (t + 167 ≤ q ∧ q < t + 171) ∨ (t + 203 ≤ q ∧ q < t + 209)) A N ∧ TR N (t + 167) (shP (vN I n deal mood) Y (cN I n deal mood) (plE I n deal mood 8 (ru4 (vOf I n deal mood) (bOf I n deal mood) (dlR r s d) d)) d)) := by
  have hf := fun i (hi : i < 4) => lyS_f (V := vOf I n deal mood) (Bd := bOf I n deal mood) (s := s) hd hV h8 hi
  obtain ⟨_, _, _, _, ⟨g1, g2, g3⟩⟩ := ru4_f (V := vOf I n deal mood) (Bd := bOf I n deal mood) (s := s) hd hV h8
  have e6 : ∀ i, i ≤ 4 → lyS (vOf I n deal mood) (bOf I n deal mood) (dlR r s d) d i 10 = Int32.ofNat d := by
    intro i
    induction i with
    | zero => intro _; rfl
    | succ i ih =>
      intro hi
      obtain ⟨v1, v2, v3⟩ := hf i (by omega)
      show ly1 _ _ (lyS (vOf I n deal mood) (bOf I n deal mood) (dlR r s d) d i) (if i < 2 then 1 - d else d) 10 = _
      rw [(ly1_f v1 v2 (by split <;> omega) v3).2.1 10 (by omega)]
      exact ih (by omega)
  have hx7 : mI A (t + 179) 4 = Int32.ofNat Y := by rw [h4, hY]
  unfold FX11_playRubber
  have e60 : mI A (t + 167) 6 = Int32.ofNat d := hR.2.2.2.2.2.1
  rw [e60, one_minus hd]
  refine So_nm ?_
  refine So_wl2 (fun v K => ∃ i, i ≤ 4 ∧ v = Int32.ofNat i ∧ Eo (fun q => t + 167 ≤ q ∧ q < t + 171) A K ∧ TR K (t + 167) (lyS (vOf I n deal mood) (bOf I n deal mood) (dlR r s d) d i)) (fun v _ => 4 - ix v) ?_ fuel 0 A ⟨0, by omega, rfl, Eo.rf, hR⟩ (by unfold fuel; omega)
  rintro v K rec ⟨i, hi, rfl, k1, k2⟩ hr
  have hWK : WTab K (t + 179) I n deal mood := hW.keep (fun q a b => k1 q (by omega))
  by_cases z : i = 4
  rotate_left
  · rw [if_neg (show ¬ (4 : Int32) ≤ Int32.ofNat i from nle (n := 4) (by omega) (by decide))]
    obtain ⟨v1, v2, v3⟩ := hf i (by omega)
    have hp2 : (if i < 2 then 1 - d else d) < 2 := by split <;> omega
    have hnx : lyS (vOf I n deal mood) (bOf I n deal mood) (dlR r s d) d (i + 1) = lyP (vOf I n deal mood) (bOf I n deal mood) (lyS (vOf I n deal mood) (bOf I n deal mood) (dlR r s d) d i) (tpC (lyS (vOf I n deal mood) (bOf I n deal mood) (dlR r s d) d i) (if i < 2 then 1 - d else d)) := rfl
    have e6i := e6 i (by omega)
    refine So_jn1R (fun v => v = Int32.ofNat (if i < 2 then 1 - d else d)) (fun v hv => ?_) (fun j hj => ?_)
    · generalize (if i < 2 then 1 - d else d) = p at *
      generalize lyS (vOf I n deal mood) (bOf I n deal mood) (dlR r s d) d i = R at *
      subst hv
      obtain ⟨t1, t2⟩ := tpC_in (r := R) (p := p) (by omega)
      refine So.bindE (handOf_c hp2) (So.bindE (highest_c (k2.own hp2) (show 1 ≤ nAt R (Int32.ofNat p) by omega)) ?_)
      refine So.bind (show So (FX8_layAway (t + 167) (Int32.ofNat (tpC R p)) (Int32.ofNat p) (t + 179) K) _ from layAway_c k2 v1 v2 t1 hp2 t2 hWK (by omega)) (fun X hX => So_nm ?_)
      rw [s1]
      exact hr _ _ ⟨i + 1, by omega, rfl, k1.tr (hX.1.up (fun q hq => by omega)), by rw [hnx]; exact hX.2⟩ (by rw [nn_ix (by omega), nn_ix (by omega)]; omega)
    · have e2 : ((2 : Int32) ≤ Int32.ofNat i) ↔ 2 ≤ i := nn_le (a := 2) (by omega) (by omega)
      have eK : mI K (t + 167) 6 = Int32.ofNat d := k2.2.2.2.2.2.1.trans e6i
      refine So.ite (fun q => hj _ ?_) (fun q => hj _ ?_)
      · rw [eK, if_neg (by have := e2.mp q; omega)]
      · rw [if_pos (Nat.lt_of_not_le (fun w => q (e2.mpr w)))]
  subst z
  rw [if_pos (show (4 : Int32) ≤ Int32.ofNat 4 by decide)]
  have k2 : TR K (t + 167) (ru4 (vOf I n deal mood) (bOf I n deal mood) (dlR r s d) d) := k2
  have g7 : ru4 (vOf I n deal mood) (bOf I n deal mood) (dlR r s d) d 7 = r 7 := by rw [g3 7 (by omega), dlR_o (by omega)]
  have g10 : ru4 (vOf I n deal mood) (bOf I n deal mood) (dlR r s d) d 10 = Int32.ofNat d := by rw [g3 10 (by omega)]; rfl
  have g11 : ru4 (vOf I n deal mood) (bOf I n deal mood) (dlR r s d) d 11 = Int32.ofNat (dlC s 12) := by rw [g3 11 (by omega)]; rfl
  have gne : ru4 (vOf I n deal mood) (bOf I n deal mood) (dlR r s d) d 14 = -1 ∨ plL I n deal mood (ru4 (vOf I n deal mood) (bOf I n deal mood) (dlR r s d) d) ≠ [] := g2
  generalize ru4 (vOf I n deal mood) (bOf I n deal mood) (dlR r s d) d = r5 at *
  clear hr e6 hf g2 g3
  obtain ⟨p1, p2, p3⟩ := plE_f (I := I) (n := n) (deal := deal) (mood := mood) 8 r5 g1 gne g1.unp8
  have hs52 := (dlC_in (s0 := s) (i := 12) (by omega)).1
  refine So_wl2 (fun v X => ∃ i q, i + q = 8 ∧ v = Int32.ofNat i ∧ Eo (fun q => t + 167 ≤ q ∧ q < t + 171) A X ∧ ∃ R, TR X (t + 167) R ∧ GO R ∧ (R 14 = -1 ∨ plL I n deal mood R ≠ []) ∧ unp R ≤ q ∧ plE I n deal mood q R = plE I n deal mood 8 r5 ∧ R 7 = r 7) (fun v _ => 8 - ix v) ?_ fuel 0 K ⟨0, 8, rfl, rfl, k1, r5, k2, g1, gne, g1.unp8, rfl, g7⟩ (by unfold fuel; omega)
  rintro v X rec2 ⟨i, q, iq, rfl, x1, R, x2, x3, x4, x5, x6, x7⟩ hr2
  have hWX : WTab X (t + 179) I n deal mood := hW.keep (fun q a b => x1 q (by omega))
  have h4X : mI X (t + 179) 4 = r 7 := by rw [(x1 (t + 179) (by omega)).1]; exact h4
  refine So_jn0C (R 14 = -1) (fun w => ?_) (fun j hj => ?_)
  · -- shown
    have hRe : R = plE I n deal mood 8 r5 := by
      rw [← x6]
      cases q with
      | zero => rfl
      | succ q => show R = if R 14 = -1 then R else _; rw [if_pos w]
    rw [hRe] at x2 x7
    generalize plE I n deal mood 8 r5 = r6 at *
    obtain ⟨n0, n1, n2⟩ := p1.1.2.2.2.2.2.2.2.2.2.2.2.2.2.2.2.2.2.2 (Or.inl p1.2)
    refine So_bdM (showAll_c (t := t) (b := t + 167) (d := d) (s := dlC s 12) (Y := Y) (V := vN I n deal mood) (C := cN I n deal mood) x2 ⟨I, n, deal, mood, hWX, by rw [h4X]; exact hY, hY2, rfl, rfl⟩ hd (by rw [p3 10 (by omega)]; exact g10) (by rw [p3 11 (by omega)]; exact g11) hs52 n0 n1 n2 (by omega)) (fun v Z hZ => So.ok ⟨(x1.up (fun q hq => Or.inl hq)).tr (hZ.1.up (fun q hq => by omega)), hZ.2.2⟩)
  · have e10 : mI X (t + 167) 10 = R 14 := x2.2.2.2.2.2.2.2.2.2.1
    have end8 : 8 ≤ i → R 14 = -1 := fun w => by
      apply Classical.byContradiction
      intro y
      exact x4.resolve_left y (unp_nil x3 y (by omega))
    refine So.ite (fun w => hj (end8 ((nn_le (a := 8) (by omega) (by omega)).mp w))) (fun w => ?_)
    rw [e10]
    refine So.ite (fun y => hj y) (fun y => ?_)
    have i8 : i < 8 := by
      apply Classical.byContradiction
      intro a
      exact w ((nn_le (a := 8) (by omega) (by omega)).mpr (by omega))
    obtain ⟨q, rfl⟩ : ∃ q', q = q' + 1 := ⟨q - 1, by omega⟩
    obtain ⟨p, pp1, pp2, pp3⟩ := x3.tn y
    have hne := x4.resolve_left y
    have hc := plL_0 hne
    rw [pp2]
    refine So.bind (playable_c x2 x3.1 pp1 hWX) (fun xs hxs => ?_)
    rw [← pp2] at hxs
    refine So.bindE (v := Int32.ofNat ((plL I n deal mood R).getD 0 0)) (by rw [hxs.low, fC_at (List.length_pos_iff.mpr hne)]; rfl) ?_
    obtain ⟨a1, a2, a3, a4, a5, a6⟩ := x3.next y hc
    have un := unp_next (I := I) (n := n) (deal := deal) (mood := mood) x3 y hc
    refine So_bdM (putDown_c (w := t + 179) x2 x3.1 (x3.pt y hc) hWX (by rw [h4X]; exact x7.symm) (by omega)) (fun gv Z hZ => So_nm ?_)
    rw [s1]
    refine hr2 _ _ ⟨i + 1, q, by omega, rfl, x1.tr (hZ.1.up (fun q hq => by omega)), _, hZ.2.2, a1, a6, ?_, ?_, ?_⟩ (by rw [nn_ix (by omega), nn_ix (by omega)]; omega)
    · show unp (plN I n deal mood R ((plL I n deal mood R).getD 0 0)).2 ≤ q
      omega
    · rw [← x6]
      show plE I n deal mood q (plN I n deal mood R ((plL I n deal mood R).getD 0 0)).2 = if R 14 = -1 then R else _
      rw [if_neg y]
    · show (plN I n deal mood R ((plL I n deal mood R).getD 0 0)).2 7 = r 7
      rw [a3 7 (by omega)]; exact x7
/-! the reference's -/
theorem lay1_r {u n p m : Nat} {I : Nat → CI} {deal mood : Int32} {B : Mem} (h : RL u n I deal mood B) (hV : TV (mI B (u + 2))) (h9 : mI B (u + 2) 9 = 1) (hp : p < 2) (hm : nAt (mI B (u + 2)) (Int32.ofNat p) = m + 1) (h4 : 4 ≤ m) (hm2 : m < 1000) : ∃ c N, FX12_cardOf u (Int32.ofNat p) (Int32.ofNat m) B = some c ∧ FX12_layIt u c B = some N ∧ RwE u B N ∧ mI N (u + 2) = ly1 (vOf I n deal mood) (bOf I n deal mood) (mI B (u + 2)) p ∧ RL u n I deal mood N := by
  obtain ⟨t1, t2⟩ := tpC_in (r := mI B (u + 2)) (p := p) (by omega)
  obtain ⟨N, n1, n2, n3⟩ := layIt_r h hV h9 t1 hp t2
  refine ⟨Int32.ofNat (tpC (mI B (u + 2)) p), N, ?_, n1, n2, n3, h.rw n2 (fun k hk => by rw [n3]; exact lyP_out t1 hV.2.2.1 (by omega))⟩
  rw [cardOf_eq u _ m hm2 B]
  congr 1
  show at1 (cs (own (mI B (u + 2)) p)) m = _
  rw [fC_at (by rw [own_n]; omega)]
  unfold tpC
  rw [hm, show m + 1 - 1 = m by omega]
theorem layHighest_r {u n p : Nat} {I : Nat → CI} {deal mood : Int32} {B : Mem} (h : RL u n I deal mood B) (hp : p < 2) (h1 : TV (mI B (u + 2)) ∧ mI B (u + 2) 9 = 1 ∧ nAt (mI B (u + 2)) (Int32.ofNat p) = 6) (h2 : TV (ly1 (vOf I n deal mood) (bOf I n deal mood) (mI B (u + 2)) p) ∧ ly1 (vOf I n deal mood) (bOf I n deal mood) (mI B (u + 2)) p 9 = 1 ∧ nAt (ly1 (vOf I n deal mood) (bOf I n deal mood) (mI B (u + 2)) p) (Int32.ofNat p) = 5) : ∃ N, FX12_layHighest u (Int32.ofNat p) B = some N ∧ RwE u B N ∧ mI N (u + 2) = ly1 (vOf I n deal mood) (bOf I n deal mood) (ly1 (vOf I n deal mood) (bOf I n deal mood) (mI B (u + 2)) p) p ∧ RL u n I deal mood N := by
  obtain ⟨c, N, a1, a2, a3, a4, a5⟩ := lay1_r (m := 5) h h1.1 h1.2.1 hp h1.2.2 (by decide) (by decide)
  obtain ⟨c2, N2, b1, b2, b3, b4, b5⟩ := lay1_r (m := 4) a5 (by rw [a4]; exact h2.1) (by rw [a4]; exact h2.2.1) hp (by rw [a4]; exact h2.2.2) (by decide) (by decide)
  refine ⟨N2, ?_, a3.tr b3, by rw [b4, a4], b5⟩
  unfold FX12_layHighest
  rw [ob (show FX12_cardOf u (Int32.ofNat p) 5 B = _ from a1), ob a2, ob (show FX12_cardOf u (Int32.ofNat p) 4 N = _ from b1), ob b2]
theorem playLowest_r {u n : Nat} {I : Nat → CI} {deal mood : Int32} {B : Mem} {r : Nat → Int32} (h : RL u n I deal mood B) (hr : mI B (u + 2) = r) (hG : GO r) (hne : r 14 = -1 ∨ plL I n deal mood r ≠ []) : So (FX12_playLowest u B) (fun N => RwE u B N ∧ mI N (u + 2) = plE I n deal mood 8 r) := by
  unfold FX12_playLowest
  refine So_wl1 (fun M => RwE u B M ∧ RL u n I deal mood M ∧ ∃ q, GO (mI M (u + 2)) ∧ (mI M (u + 2) 14 = -1 ∨ plL I n deal mood (mI M (u + 2)) ≠ []) ∧ unp (mI M (u + 2)) ≤ q ∧ plE I n deal mood q (mI M (u + 2)) = plE I n deal mood 8 r) (fun M => unp (mI M (u + 2))) ?_ fuel B ⟨RwE.rf, h, 8, by rw [hr]; exact hG, by rw [hr]; exact hne, by rw [hr]; exact hG.unp8, by rw [hr]⟩ (by rw [hr]; have := hG.unp8; unfold fuel; omega)
  rintro M rec ⟨m1, m2, q, m3, m4, m5, m6⟩ hrec
  generalize hR : mI M (u + 2) = R at m3 m4 m5 m6 hrec
  by_cases z : R 14 = -1
  · rw [if_pos z]
    refine So.ok ⟨m1, ?_⟩
    rw [hR, ← m6]
    cases q with
    | zero => rfl
    | succ q => show R = if R 14 = -1 then R else _; rw [if_pos z]
  rw [if_neg z]
  have hne := m4.resolve_left z
  have hc := plL_0 hne
  obtain ⟨c52, cc⟩ := cs_mem.mp hc
  have hmin : ∀ y, y < (plL I n deal mood R).getD 0 0 → canP (vOf I n deal mood) (bOf I n deal mood) R (R 14) y = false := fun y hy => by
    cases hq : canP (vOf I n deal mood) (bOf I n deal mood) R (R 14) y with
    | false => rfl
    | true =>
      obtain ⟨j, j1, j2⟩ := fC_ex (P := canP (vOf I n deal mood) (bOf I n deal mood) R (R 14)) (show y < 52 by omega) hq
      have : fC (canP (vOf I n deal mood) (bOf I n deal mood) R (R 14)) 0 ≤ fC (canP (vOf I n deal mood) (bOf I n deal mood) R (R 14)) j := by
        by_cases w : j = 0
        · rw [w]; exact Nat.le_refl _
        · exact Nat.le_of_lt (fC_lt (by omega) j1)
      have e : fC (canP (vOf I n deal mood) (bOf I n deal mood) R (R 14)) 0 = (plL I n deal mood R).getD 0 0 := rfl
      omega
  have h12 : 0 ≤ (R 12).toInt ∧ (R 12).toInt ≤ 31 := m3.1.2.2.2.2.1
  obtain ⟨a1, a2, a3, a4, a5, a6⟩ := m3.next z hc
  have un := unp_next (I := I) (n := n) (deal := deal) (mood := mood) m3 z hc
  generalize hcx : (plL I n deal mood R).getD 0 0 = cx at *
  refine So_wl2 (fun v K => ∃ x, x ≤ cx ∧ v = Int32.ofNat x ∧ TlE u M K) (fun v _ => 52 - ix v) ?_ fuel 0 M ⟨0, Nat.zero_le _, rfl, TlE.rf⟩ (by unfold fuel; omega)
  rintro v K rec2 ⟨x, x1, rfl, x2⟩ hr2
  have rK : mI K (u + 2) = R := by rw [x2.row, hR]
  rw [rK]
  refine So_bdM (canPlay_r (p := R 14) (c := x) (m2.tl x2) (by rw [rK]; exact h12) (by omega)) (fun w K2 hK2 => ?_)
  have w1 : TlE u K K2 := hK2.1
  have w2 : w = _ := hK2.2
  rw [rK] at w2
  have rK2 : mI K2 (u + 2) = R := by rw [w1.row, rK]
  by_cases y : x = cx
  · rw [y] at w2 ⊢
    rw [w2, if_pos cc, if_pos (by decide)]
    have rl2 := (m2.tl x2).tl w1
    have hpt := m3.pt z (I := I) (n := n) (deal := deal) (mood := mood) (c := cx) hc
    refine So_bdM (playIt_r (m := ix (R 13)) (p := ix (R 14)) rl2 (by rw [rK2]; exact m3.1) (by rw [rK2]; exact hpt)) (fun g X hX => ?_)
    obtain ⟨g1, g2, g3⟩ := hX
    have g1 : RwE u K2 X := g1
    have g3 : mI X (u + 2) = _ := g3
    rw [rK2] at g3
    have g3 : mI X (u + 2) = (plN I n deal mood R cx).2 := g3
    have qne : q ≠ 0 := by omega
    obtain ⟨q, rfl⟩ : ∃ q', q = q' + 1 := ⟨q - 1, by omega⟩
    refine hrec X ⟨((m1.tr x2.rw).tr w1.rw).tr g1, rl2.rw g1 (fun k hk => by rw [g3, rK2]; exact a3 k (by omega)), q, by rw [g3]; exact a1, by rw [g3]; exact a6, by rw [g3]; omega, ?_⟩ (by rw [g3]; omega)
    rw [g3, ← m6]
    show _ = if R 14 = -1 then R else plE I n deal mood q (plN I n deal mood R ((plL I n deal mood R).getD 0 0)).2
    rw [if_neg z, hcx]
  · rw [w2, hmin x (by omega), if_neg (by decide)]
    refine So_nm ?_
    rw [s1]
    exact hr2 _ _ ⟨x + 1, by omega, rfl, x2.tr w1⟩ (by rw [nn_ix (by omega), nn_ix (by omega)]; omega)
