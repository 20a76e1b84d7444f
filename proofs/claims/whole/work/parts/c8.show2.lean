/-! ===== to show, on both sides ===== -/
def ShE (u : Nat) (M N : Mem) : Prop := Eo (fun q => q = u ∨ q = u + 2 ∨ q = u + 18 ∨ (u + 20 ≤ q ∧ q < u + 32)) M N ∧ (∀ k, k ≠ 34 → k ≠ 38 → mI N u k = mI M u k) ∧ ∀ k, k ≠ 39 → k ≠ 40 → mJ N u k = mJ M u k
theorem ShE.rf {u : Nat} {M : Mem} : ShE u M M := ⟨Eo.rf, fun _ _ _ => rfl, fun _ _ _ => rfl⟩
theorem ShE.tr {u : Nat} {M N K : Mem} (h : ShE u M N) (h2 : ShE u N K) : ShE u M K := ⟨h.1.tr h2.1, fun k a b => (h2.2.1 k a b).trans (h.2.1 k a b), fun k a b => (h2.2.2 k a b).trans (h.2.2 k a b)⟩
theorem CnE.sh {u : Nat} {M N : Mem} (h : CnE u M N) : ShE u M N := ⟨h.1.up (fun q hq => by omega), h.2.1, h.2.2⟩
theorem RwE.sh {u : Nat} {M N : Mem} (h : RwE u M N) : ShE u M N := ⟨h.1.up (fun q hq => by omega), h.2.1, h.2.2⟩
theorem showIt_r {u n d s Y : Nat} {I : Nat → CI} {deal mood : Int32} {B : Mem} (h : RL u n I deal mood B) (hV : TV (mI B (u + 2))) (hd : d < 2) (h10 : mI B (u + 2) 10 = Int32.ofNat d) (hs : mI B (u + 2) 11 = Int32.ofNat s) (hs2 : s < 52) (hY : mI B (u + 2) 7 = Int32.ofNat Y) (hY2 : Y ≤ 31) (h0 : nAt (mI B (u + 2)) 0 = 4) (h1 : nAt (mI B (u + 2)) 1 = 4) (h2 : nAt (mI B (u + 2)) 2 = 4) : So (FX12_showIt u B) (fun x => ShE u B x.2 ∧ x.1 = Int32.ofNat (shV (vN I n deal mood) Y (cN I n deal mood) (mI B (u + 2)) d) ∧ mI x.2 (u + 2) = shP (vN I n deal mood) Y (cN I n deal mood) (mI B (u + 2)) d) := by
  have hn : ∀ q, q < 2 → nAt (mI B (u + 2)) (Int32.ofNat q) = 4 := fun q hq => by
    obtain rfl | rfl : q = 0 ∨ q = 1 := by omega
    · exact h0
    · exact h1
  have hx : ix (mI B (u + 2) 11) = s := by rw [hs, nn_ix (by omega)]
  have hh : ∀ p pl, amt (vN I n deal mood) Y (cN I n deal mood pl) pl (w5 (fC (fun c => decide (mI B (u + 2) (18 + c) = Int32.ofNat p))) s) 0 = hnd (vN I n deal mood) Y (cN I n deal mood) (mI B (u + 2)) p pl := fun p pl => by unfold hnd; rw [hx]
  have hc : ∀ a b c, cN I n deal mood a b c ≤ 99 := fun a b c => cN_le
  have l0 := hnd_le (V := vN I n deal mood) (Y := Y) (r := mI B (u + 2)) (p := 1 - d) (pl := 0) hc
  have l1 := hnd_le (V := vN I n deal mood) (Y := Y) (r := mI B (u + 2)) (p := d) (pl := 0) hc
  have l2 := hnd_le (V := vN I n deal mood) (Y := Y) (r := mI B (u + 2)) (p := 2) (pl := 1) hc
  have pg : ∀ (r : Nat → Int32), TV r → ∀ p, p < 2 → 0 ≤ (r (16 + p)).toInt ∧ (r (16 + p)).toInt ≤ 9999 := fun r hr p hp => by
    obtain rfl | rfl : p = 0 ∨ p = 1 := by omega
    · exact hr.2.2.2.2.2.2.2.2.1
    · exact hr.2.2.2.2.2.2.2.2.2.1
  unfold FX12_showIt
  rw [h10]
  refine So_nm ?_
  rw [one_minus hd]
  refine (So_bdM (countAt_r (pl := 0) h (by decide) (hn (1 - d) (by omega)) hs hs2 hY hY2) (fun v3 M3 h3 => ?_))
  have a1 : CnE u B M3 := h3.1
  have a2 : v3 = _ := h3.2
  refine So_bdM (countAt_r (pl := 0) (h.cn a1) (by decide) (by rw [a1.row]; exact hn d hd) (by rw [a1.row]; exact hs) hs2 (by rw [a1.row]; exact hY) hY2) (fun v5 M5 h5 => ?_)
  have b1 : CnE u B M5 := a1.tr h5.1
  have b2 : v5 = _ := h5.2
  refine So_bdM (countAt_r (pl := 1) (h.cn b1) (by decide) (by rw [b1.row]; exact h2) (by rw [b1.row]; exact hs) hs2 (by rw [b1.row]; exact hY) hY2) (fun v7 M7 h7 => ?_)
  have c1 : CnE u B M7 := b1.tr h7.1
  have c2 : v7 = _ := h7.2
  rw [hh] at a2
  rw [a1.row, hh] at b2
  rw [b1.row, show amt (vN I n deal mood) Y (cN I n deal mood 1) 1 (w5 (fC (fun c => decide (mI B (u + 2) (18 + c) = 2))) s) 0 = hnd (vN I n deal mood) Y (cN I n deal mood) (mI B (u + 2)) 2 1 from hh 2 1] at c2
  rw [a2, b2, c2, nn_add, nn_add, nn_add]
  have v1 := hV.peg (p := 1 - d) (y := Int32.ofNat (hnd (vN I n deal mood) Y (cN I n deal mood) (mI B (u + 2)) (1 - d) 0)) (by omega) (by rw [nn_int (by omega)]; omega)
  refine So.bindE (peg_r (by omega) (by rw [c1.row]; exact pg _ hV _ (by omega)) (by rw [nn_int (by omega)]; omega)) ?_
  have r9 : mI (sI M7 (u + 2) (16 + (1 - d)) (pgM (mI M7 (u + 2) (16 + (1 - d))) (Int32.ofNat (hnd (vN I n deal mood) Y (cN I n deal mood) (mI B (u + 2)) (1 - d) 0)))) (u + 2) = pgP (mI B (u + 2)) (1 - d) (Int32.ofNat (hnd (vN I n deal mood) Y (cN I n deal mood) (mI B (u + 2)) (1 - d) 0)) := by
    rw [sI_ru, c1.row]; rfl
  refine So.bindE (peg_r hd (by rw [r9]; exact pg _ v1 _ hd) (by rw [nn_int (by omega)]; omega)) (So_nm (So.ok ⟨((c1.sh.tr RwE_s.sh).tr RwE_s.sh).tr RwE_s.sh, ?_, ?_⟩))
  · unfold shV
    rw [Nat.add_assoc]
  · show mI (sI (sI (sI M7 (u + 2) (16 + (1 - d)) _) (u + 2) (16 + d) _) (u + 2) 9 3) (u + 2) = _
    rw [sI_ru, sI_ru, r9]; rfl
theorem show_act {Λ : Lam} {t u T n : Nat} {I : Nat → CI} {A B : Mem} (h : JT Λ t u T A B) (f : FitW t u n I A B) : ActR Λ t u T A B (FX11_makeShow t A) (FX12_showNow u B) := by
  have hu := h.1
  obtain ⟨hTR, hTV, _, _, _, hSt⟩ := id h.2.2.1
  obtain ⟨Y, y1, y2, y3⟩ := f.wv hSt.2.2.2.2.2
  unfold FX11_makeShow FX12_showNow
  have e5 : mI A (t + 1 + 1) 5 = mI B (u + 2) 9 := hTR.2.2.2.2.1
  have e10 : mI A (t + 1 + 1) 10 = mI B (u + 2) 14 := hTR.2.2.2.2.2.2.2.2.2.1
  rw [jb, jb, e5, e10]
  have ref : ActR Λ t u T A B (some (-3, A)) (some (-3, B)) := ⟨-3, A, B, rfl, rfl, AcE.rf, h, Or.inr (Or.inl rfl)⟩
  by_cases z9 : mI B (u + 2) 9 = 2
  rotate_left
  · rw [if_pos z9, if_pos z9]; exact ref
  rw [if_neg (show ¬ ¬ mI B (u + 2) 9 = 2 from fun q => q z9), if_neg (show ¬ ¬ mI B (u + 2) 9 = 2 from fun q => q z9)]
  by_cases z14 : mI B (u + 2) 14 = -1
  rotate_left
  · rw [if_neg z14, if_neg z14]; exact ref
  rw [if_pos z14, if_pos z14]
  obtain ⟨n0, n1, n2⟩ := hTV.2.2.2.2.2.2.2.2.2.2.2.2.2.2.2.2.2.2 (Or.inl z9)
  obtain ⟨d, d1, d2⟩ := pl_nn hTV.2.2.1
  obtain ⟨s, s1', s2⟩ := hTV.2.2.2.1.resolve_left (hTV.2.2.2.2.2.2.2.2.2.2.2.2.2.2.2.1 (by rw [z9]; decide))
  obtain ⟨⟨A1, a1⟩, ⟨B1, b1⟩⟩ := push_some (kd := 3) h.2.2.2.1 (p := t + 1 + 1) (by omega) hTR
  obtain ⟨hH, ea, eb, eu, ej, el⟩ := h.2.2.2.1.push (kd := 3) (p := t + 1 + 1) (by omega) hTR hTV (by decide) a1 b1
  have hTR1 : TR A1 (t + 1 + 1) (mI B (u + 2)) := hTR.keep (ea _ (by omega)) (ea _ (by omega)) (ea _ (by omega)) (ea _ (by omega))
  have rB : mI B1 (u + 2) = mI B (u + 2) := (eb (u + 2) (by omega)).1
  obtain ⟨⟨v2, A2⟩, a2, a3, a4, a5⟩ := showAll_c (t := t) hTR1 (y3.keep (fun q a b => ea q (by omega))) d1 d2 s2 s1' n0 n1 n2 (by omega)
  have a3 : Eo (fun q => (t + 1 + 1 ≤ q ∧ q < t + 1 + 1 + 4) ∨ (t + 203 ≤ q ∧ q < t + 209)) A1 A2 := a3
  have a4 : v2 = _ := a4
  have rl1 : RL u n I (mI B (u + 2) 8) (mI B (u + 2) 6) B1 := (h.rl f).keep (fun k _ _ => by rw [rB]) (eu 20 (by decide))
  obtain ⟨⟨v3, B2⟩, b2, b3, b4, b5⟩ := showIt_r rl1 (by rw [rB]; exact hTV) d1 (by rw [rB]; exact d2) (by rw [rB]; exact s2) s1' (by rw [rB]; exact y1) y2.2 (by rw [rB]; exact n0) (by rw [rB]; exact n1) (by rw [rB]; exact n2)
  have b3 : ShE u B1 B2 := b3
  have b4 : v3 = _ := b4
  have b5 : mI B2 (u + 2) = _ := b5
  rw [rB] at b4 b5
  have tvp := shP_TV (V := vN I n (mI B (u + 2) 8) (mI B (u + 2) 6)) (Y := Y) (d := d) (C := cN I n (mI B (u + 2) 8) (mI B (u + 2) 6)) hTV (fun a b c => cN_le) z9 z14 d1
  have E15 : ∀ q, q = u + 5 ∨ q = u + 6 → Ea B1 B2 q := fun q hq => b3.1 q (by omega)
  have hE : AcE t u A A2 B B2 := ⟨(ea.up (fun q hq => by unfold CAc; omega)).tr (a3.up (fun q hq => by unfold CAc; omega)), (eb.up (fun q hq => by unfold RAc; omega)).tr (b3.1.up (fun q hq => by unfold RAc; omega)), fun k k8 k34 k38 => by rw [b3.2.1 k k34 k38]; exact eu k k8, fun k hk => by rw [b5]; exact shP_out d1 (by omega), fun k hk => by rw [(E15 (u + 5) (Or.inl rfl)).1]; exact el k hk⟩
  refine ⟨v2, A2, B2, ?_, ?_, hE, h.tab hE (by rw [b5]; exact a5) (by rw [b5]; exact tvp) (hH.keep (fun q a b => a3 q (by omega)) (E15 _ (Or.inl rfl)).1 (E15 _ (Or.inr rfl)).1 (b3.2.1 8 (by decide) (by decide))), Or.inr (Or.inr ?_)⟩
  · rw [ob a1, bo a2]
  · rw [ob b1, bo b2, b4, a4]
  · have hc : ∀ a b c, cN I n (mI B (u + 2) 8) (mI B (u + 2) 6) a b c ≤ 99 := fun a b c => cN_le
    have l0 := hnd_le (V := vN I n (mI B (u + 2) 8) (mI B (u + 2) 6)) (Y := Y) (r := mI B (u + 2)) (p := 1 - d) (pl := 0) hc
    have l1 := hnd_le (V := vN I n (mI B (u + 2) 8) (mI B (u + 2) 6)) (Y := Y) (r := mI B (u + 2)) (p := d) (pl := 0) hc
    have l2 := hnd_le (V := vN I n (mI B (u + 2) 8) (mI B (u + 2) 6)) (Y := Y) (r := mI B (u + 2)) (p := 2) (pl := 1) hc
    rw [a4, nn_int (by unfold shV; omega)]; omega
theorem st_show : St_show Inv := by
  rintro t u T M ⟨Λ, h⟩
  obtain ⟨n, I, N, n1, n2, n3, n4⟩ := h.fitJ
  unfold FX11_show
  rw [ob n1]
  exact act_st (fc := FX11_makeShow t) (fr := FX12_showNow u) n2 (fun B hB e => show_act hB (n4.ref e))
