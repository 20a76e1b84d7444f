theorem playIt_r {u c m p n : Nat} {I : Nat → CI} {deal mood : Int32} {B : Mem} (hl : RL u n I deal mood B) (hV : TV (mI B (u + 2))) (h : PtH (vOf I n deal mood) (bOf I n deal mood) (mI B (u + 2)) c m p) : So (FX12_playIt u (Int32.ofNat c) B) (fun x => RwE u B x.2 ∧ x.1 = (ptP I n deal mood (mI B (u + 2)) c m p).1 ∧ mI x.2 (u + 2) = (ptP I n deal mood (mI B (u + 2)) c m p).2) := by
  obtain ⟨l1, l2, l3⟩ := h.line hV
  obtain ⟨va, vs⟩ := hV.vA h vOf_rg.1
  have rg := ptP_rg (I := I) (n := n) (c := c) (m := m) (p := p) (deal := deal) (mood := mood) (r := mI B (u + 2)) l1
  obtain ⟨hc, hp, h9, h14, h13, hm8, hcan⟩ := h
  generalize hr : mI B (u + 2) = r at *
  have a9 : ptA (vOf I n deal mood) r c m 9 = 2 := by rw [ptA_o (by omega) (by omega) (by omega) (by omega) (by omega)]; exact h9
  have vb := va.vB (V := vOf I n deal mood) (Bd := bOf I n deal mood) a9 hp
  unfold FX12_playIt
  rw [hr, h14, show (70 : Int32) + Int32.ofNat c = Int32.ofNat (70 + c) from nn_add 70 c, nn_ix (by omega)]
  refine So_nm (So_gd (inb_nn (by omega) (by decide)) (So_nm ?_))
  have r4 : mI (sI B (u + 2) (70 + c) 1) (u + 2) = ru r (70 + c) 1 := by rw [sI_ru, hr]
  rw [r4, ru_n (show (13 : Nat) ≠ 70 + c by omega), h13, show (122 : Int32) + Int32.ofNat m = Int32.ofNat (122 + m) from nn_add 122 m, nn_ix (by omega)]
  refine So_gd (inb_nn (by omega) (by decide)) (So_nm ?_)
  rw [sI_ru, r4, ru_n (show (13 : Nat) ≠ 122 + m by omega), ru_n (show (13 : Nat) ≠ 70 + c by omega), h13, s1]
  generalize hM11 : sI (sI (sI B (u + 2) (70 + c) 1) (u + 2) (122 + m) (Int32.ofNat c)) (u + 2) 13 (Int32.ofNat (m + 1)) = M11
  have r11 : mI M11 (u + 2) = ru (ru (ru r (70 + c) 1) (122 + m) (Int32.ofNat c)) 13 (Int32.ofNat (m + 1)) := by rw [← hM11, sI_ru, sI_ru, r4]
  have W11 : RwE u B M11 := by rw [← hM11]; exact (RwE_s.tr RwE_s).tr RwE_s
  have out11 : ∀ k, k < 9 ∨ 194 ≤ k → mI M11 (u + 2) k = mI B (u + 2) k := fun k hk => by rw [r11, ru_n (by omega), ru_n (by omega), ru_n (by omega), hr]
  have rl11 := hl.rw W11 out11
  refine So_nm (So_bdM (valueOf_r rl11.1 rl11.2.1 hc) (fun v M13 h13' => ?_))
  obtain ⟨t13, hv⟩ := h13'
  have t13 : TlE u M11 M13 := t13
  have hv : v = vOf I n (mI M11 (u + 2) 8) (mI M11 (u + 2) 6) c := hv
  rw [rl11.2.2.1, rl11.2.2.2] at hv
  subst hv
  rw [r11, ru_n (show (12 : Nat) ≠ 13 by decide), ru_n (show (12 : Nat) ≠ 122 + m by omega), ru_n (show (12 : Nat) ≠ 70 + c by omega)]
  refine So_nm (So_nm ?_)
  generalize hM17 : sI (sI M13 (u + 2) 12 (r 12 + vOf I n deal mood c)) (u + 2) 15 (Int32.ofNat p) = M17
  have r17 : mI M17 (u + 2) = ptA (vOf I n deal mood) r c m := by
    rw [← hM17, sI_ru, sI_ru, t13.row, r11]; unfold ptA; rw [h14]
  have W17 : RwE u B M17 := by rw [← hM17]; exact ((W11.tr t13.rw).tr RwE_s).tr RwE_s
  have outA : ∀ k, k < 9 ∨ 194 ≤ k → ptA (vOf I n deal mood) r c m k = mI B (u + 2) k := fun k hk => by rw [ptA_o (by omega) (by omega) (by omega) (by omega) (by omega), hr]
  have k12 : ptA (vOf I n deal mood) r c m 12 = r 12 + vOf I n deal mood c := ptA_12
  have k7 : ptA (vOf I n deal mood) r c m 7 = r 7 := ptA_o (by omega) (by omega) (by omega) (by omega) (by omega)
  have lnA : ∀ N : Mem, mI N (u + 2) = ptA (vOf I n deal mood) r c m → LnR (mI N (u + 2)) (m + 1) (ptL r m c) := fun N hN => by
    rw [hN]
    exact ⟨by omega, ptA_13, fun k hk => ptA_ln hc l1 l3 hk⟩
  have g12 : 0 ≤ (ptA (vOf I n deal mood) r c m 12).toInt ∧ (ptA (vOf I n deal mood) r c m 12).toInt ≤ 31 := va.2.2.2.2.1
  have fin : ∀ (v : Int32) (N : Mem) (R : Nat → Int32), RwE u B N → mI N (u + 2) = R → TV R → ptP I n deal mood r c m p = (v, pgP R p v) → So ((FX12_peg u (Int32.ofNat p) v N).bind fun M18 => some (v, M18)) (fun x => RwE u B x.2 ∧ x.1 = (ptP I n deal mood r c m p).1 ∧ mI x.2 (u + 2) = (ptP I n deal mood r c m p).2) := fun v N R hN hTN hVR hP => by
    rw [hP] at rg
    have hpg : 0 ≤ (mI N (u + 2) (16 + p)).toInt ∧ (mI N (u + 2) (16 + p)).toInt ≤ 9999 := by
      rw [hTN]
      obtain rfl | rfl : p = 0 ∨ p = 1 := by omega
      · exact hVR.2.2.2.2.2.2.2.2.1
      · exact hVR.2.2.2.2.2.2.2.2.2.1
    refine So.bindE (peg_r hp hpg ⟨rg.1, Int.le_trans rg.2 (by decide)⟩) (So.ok ⟨hN.tr RwE_s, by rw [hP], ?_⟩)
    rw [hP]
    show mI (sI N (u + 2) (16 + p) _) (u + 2) = pgP R p v
    rw [sI_ru, hTN]; rfl
  rw [r17, k12, k7]
  refine So_jn2R (fun v N => RwE u B N ∧ mI N (u + 2) = ptA (vOf I n deal mood) r c m ∧ v = if r 12 + vOf I n deal mood c = r 7 then cIt I n deal mood 1 2 (m + 1) else 0) (fun v20 M21 h21 => ?_) (fun j22 h22 => ?_)
  · obtain ⟨w21, r21, e20⟩ := h21
    rw [r21, k12]
    refine So_jn1R (fun v => v = if r 12 + vOf I n deal mood c = 31 then 2 else 0) (fun v25 e25 => So_nm ?_) (fun j26 h26 => ?_)
    · refine So_bdM (linePairs_r (hl.rw w21 (fun k hk => by rw [r21]; exact outA k hk)) (lnA M21 r21) (by omega)) (fun v30 M29 h29 => ?_)
      obtain ⟨t29, e30⟩ := h29
      have t29 : TlE u M21 M29 := t29
      have e30 : v30 = prP I n deal mood (gL (ptL r m c) (m + 1)) (m + 1) := e30
      have w29 := w21.tr t29.rw
      have r29 : mI M29 (u + 2) = ptA (vOf I n deal mood) r c m := by rw [t29.row, r21]
      refine So_bdM (lineRun_r (hl.rw w29 (fun k hk => by rw [r29]; exact outA k hk)) (lnA M29 r29)) (fun v32 M31 h31 => So_nm ?_)
      obtain ⟨t31, e32⟩ := h31
      have t31 : TlE u M29 M31 := t31
      have e32 : v32 = rnP I n deal mood (gL (ptL r m c) (m + 1)) (m + 1) := e32
      have w31 := w29.tr t31.rw
      have r31 : mI M31 (u + 2) = ptA (vOf I n deal mood) r c m := by rw [t31.row, r29]
      have eg : (v20 + v25) + (v30 + v32) = ptG I n deal mood r c m := by rw [e20, e25, e30, e32]; rfl
      rw [eg, one_minus hp]
      refine So.bind (turnTo_r (hl.rw w31 (fun k hk => by rw [r31]; exact outA k hk)) (by rw [r31]; exact g12)) (fun M34 h34 => ?_)
      obtain ⟨M33, t33, rfl⟩ := h34
      rw [r31]
      have r34 : mI (sI M33 (u + 2) 14 (tnP (vOf I n deal mood) (bOf I n deal mood) (ptA (vOf I n deal mood) r c m) (Int32.ofNat (1 - p)) (Int32.ofNat p))) (u + 2) = ptB (vOf I n deal mood) (bOf I n deal mood) (ptA (vOf I n deal mood) r c m) p := by
        rw [sI_ru, t33.row, r31]; rfl
      have w34 : RwE u B (sI M33 (u + 2) 14 (tnP (vOf I n deal mood) (bOf I n deal mood) (ptA (vOf I n deal mood) r c m) (Int32.ofNat (1 - p)) (Int32.ofNat p))) := (w31.tr t33.rw).tr RwE_s
      generalize sI M33 (u + 2) 14 (tnP (vOf I n deal mood) (bOf I n deal mood) (ptA (vOf I n deal mood) r c m) (Int32.ofNat (1 - p)) (Int32.ofNat p)) = M34 at r34 w34
      refine So_jn2 ?_
      rw [r34]
      by_cases z : ptB (vOf I n deal mood) (bOf I n deal mood) (ptA (vOf I n deal mood) r c m) p 14 = -1
      · rw [if_neg (fun y => y z), ptB_o (by decide), k12]
        refine So_jn1R (fun v => v = if r 12 + vOf I n deal mood c = 31 then 0 else 1) (fun v42 h42 => So_nm (So_nm (So_nm ?_))) (fun j43 h43 => ?_)
        · have r49 : mI (sI (sI M34 (u + 2) 12 0) (u + 2) 13 0) (u + 2) = ptC (ptB (vOf I n deal mood) (bOf I n deal mood) (ptA (vOf I n deal mood) r c m) p) := by rw [sI_ru, sI_ru, r34]; rfl
          have w49 : RwE u B (sI (sI M34 (u + 2) 12 0) (u + 2) 13 0) := (w34.tr RwE_s).tr RwE_s
          generalize sI (sI M34 (u + 2) 12 0) (u + 2) 13 0 = M49 at r49 w49
          refine So.bind (turnTo_r (hl.rw w49 (fun k hk => by rw [r49, ptC_o (by omega) (by omega), ptB_o (by omega)]; exact outA k hk)) (by rw [r49]; exact vb.vC.2.2.2.2.1)) (fun M50 h50 => ?_)
          obtain ⟨M51, t51, rfl⟩ := h50
          rw [r49]
          refine fin _ _ _ ((w49.tr t51.rw).tr RwE_s) rfl ?_ ?_
          · rw [sI_ru, t51.row, r49]
            refine vb.vC.vB ?_ hp
            rw [ptC_o (by decide) (by decide), ptB_o (by decide)]; exact a9
          · rw [sI_ru, t51.row, r49]
            unfold ptP
            rw [if_pos z, h42]; rfl
        · by_cases y : r 12 + vOf I n deal mood c = 31
          · rw [if_neg (fun x => x y)]; exact h43 _ (by rw [if_pos y])
          · rw [if_pos y]; exact h43 _ (by rw [if_neg y])
      · rw [if_pos z]
        refine fin _ _ _ w34 r34 vb ?_
        unfold ptP
        rw [if_neg z]
    · by_cases y : r 12 + vOf I n deal mood c = 31
      · rw [if_neg (fun x => x y)]; exact h26 _ (by rw [if_pos y])
      · rw [if_pos y]; exact h26 _ (by rw [if_neg y])
  · by_cases y : r 12 + vOf I n deal mood c = r 7
    · rw [if_neg (fun x => x y)]
      have rl17 := hl.rw W17 (fun k hk => by rw [r17]; exact outA k hk)
      refine So_bdM (countsAs_r (kind := 1) rl17.1 rl17.2.1 (by decide)) (fun v N hN => h22 _ _ ?_)
      obtain ⟨t52, e53⟩ := hN
      have t52 : TlE u M17 N := t52
      have e53 : v = cOf I n (mI M17 (u + 2) 8) (mI M17 (u + 2) 6) 1 (-1) (-1) (ptA (vOf I n deal mood) r c m 13) (-1) 2 := e53
      refine ⟨W17.tr t52.rw, by rw [t52.row, r17], ?_⟩
      rw [if_pos y, e53, rl17.2.2.1, rl17.2.2.2, ptA_13]; rfl
    · rw [if_pos y]
      exact h22 _ _ ⟨W17, r17, by rw [if_neg y]⟩
theorem ptP_out {I : Nat → CI} {n c m p k : Nat} {deal mood : Int32} {r : Nat → Int32} (hc : c < 52) (hm : m < 8) (hp : p < 2) (hk : k < 9 ∨ 130 ≤ k) : (ptP I n deal mood r c m p).2 k = r k := by
  have e : ptA (vOf I n deal mood) r c m k = r k := ptA_o (by omega) (by omega) (by omega) (by omega) (by omega)
  unfold ptP
  split
  · show pgP _ p _ k = r k
    rw [pgP_o hp (by omega) (by omega), ptB_o (by omega), ptC_o (by omega) (by omega), ptB_o (by omega), e]
  · show pgP _ p _ k = r k
    rw [pgP_o hp (by omega) (by omega), ptB_o (by omega), e]
theorem play_act {Λ : Lam} {t u T n : Nat} {I : Nat → CI} {A B : Mem} (h : JT Λ t u T A B) (f : FitW t u n I A B) (p1 p2 : Int32) : ActR Λ t u T A B (FX11_makePlay t p1 p2 A) (FX12_playNow u p1 p2 B) := by
  have hu := h.1
  obtain ⟨hTR, hTV, _⟩ := h.2.2.1
  unfold FX11_makePlay FX12_playNow
  have ref : ∀ (v : Int32) (x y : Option (Int32 × Mem)), (v = -1 ∨ v = -3) → x = some (v, A) → y = some (v, B) → ActR Λ t u T A B x y := fun v x y hv hx hy => ⟨v, A, B, hx, hy, AcE.rf, h, by rcases hv with z | z <;> simp [z]⟩
  rcases card_cases p1 with ⟨c, hc, rfl⟩ | hno
  rotate_left
  · refine ref (-1) _ _ (Or.inl rfl) ?_ ?_
    · rw [isCard_eq, if_neg hno, ob rfl, jb, if_pos rfl]
    · rw [isCardM, if_neg hno, ob rfl, jb, if_pos rfl]
  rw [isCard_nn hc, show FX12_isCard (Int32.ofNat c) = some 1 from by rw [isCardM, nn_int (by omega), if_pos (by omega)], ob rfl, ob rfl]
  simp only [jb, jb1]
  rw [if_neg (show ¬ (1 : Int32) = 0 by decide), if_neg (show ¬ (1 : Int32) = 0 by decide)]
  rcases pl_cases p2 with ⟨p, hp, rfl, i1, i2⟩ | ⟨i1, i2⟩
  rotate_left
  · refine ref (-1) _ _ (Or.inl rfl) ?_ ?_
    · rw [ob i1, if_neg (by decide)]
    · rw [ob i2, if_neg (by decide)]
  rw [ob i1, ob i2, if_pos (show ¬ (1 : Int32) = 0 by decide), if_pos (show ¬ (1 : Int32) = 0 by decide)]
  have e10 : mI A (t + 1 + 1) 10 = mI B (u + 2) 14 := hTR.2.2.2.2.2.2.2.2.2.1
  rw [e10]
  by_cases z : mI B (u + 2) 14 = Int32.ofNat p
  rotate_left
  · refine ref (-3) _ _ (Or.inr rfl) (by rw [if_pos z]) ?_
    by_cases y : mI B (u + 2) 9 = 2
    · rw [if_neg (fun x => x y), if_pos z]
    · rw [if_pos y]
  have z9 : mI B (u + 2) 9 = 2 := by
    apply Classical.byContradiction
    intro y
    have := hTV.2.2.2.2.2.2.2.2.2.2.2.2.2.2.2.2.1 y
    rw [z] at this
    have := congrArg Int32.toInt this
    rw [nn_int (by omega), show (-1 : Int32).toInt = -1 from rfl] at this
    omega
  rw [if_neg (fun x => x z), if_neg (fun x => x z9), if_neg (fun x => x z)]
  obtain ⟨x, x1, x2⟩ := playable_c hTR hTV hp f.2.1
  have h12 : 0 ≤ (mI B (u + 2) 12).toInt ∧ (mI B (u + 2) 12).toInt ≤ 31 := hTV.2.2.2.2.1
  obtain ⟨⟨v, B0⟩, y1, y2, y3⟩ := canPlay_r (p := Int32.ofNat p) (c := c) (h.rl f) h12 hc
  have y2 : TlE u B B0 := y2
  have y3 : v = _ := y3
  rw [ob x1, ob (x2.has hc), bo y1, y3]
  have jt0 : JT Λ t u T A B0 := h.ref y2.row (y2.1 (u + 5) (by omega)).1 (y2.1 (u + 6) (by omega)).1 (y2.2.1 8 (by decide) (by decide)) (y2.2.1 20 (by decide) (by decide))
  have ac0 : AcE t u A A B B0 := ⟨Eo.rf, y2.1.up (fun q hq => by unfold RAc; omega), fun k _ a b => y2.2.1 k a b, fun k _ => by rw [y2.row], fun k _ => by rw [(y2.1 (u + 5) (by omega)).1]⟩
  by_cases w : canP (vOf I n (mI B (u + 2) 8) (mI B (u + 2) 6)) (bOf I n (mI B (u + 2) 8) (mI B (u + 2) 6)) (mI B (u + 2)) (Int32.ofNat p) c = true
  · rw [if_pos w, if_pos (by decide), if_pos (by decide)]
    obtain ⟨m, m1, m2, _⟩ := hTV.2.2.2.2.2.1
    have hpt : PtH (vOf I n (mI B (u + 2) 8) (mI B (u + 2) 6)) (bOf I n (mI B (u + 2) 8) (mI B (u + 2) 6)) (mI B (u + 2)) c m p := ⟨hc, hp, z9, z, m2, m1, w⟩
    obtain ⟨⟨A1, a1⟩, ⟨B1, b1⟩⟩ := push_some (kd := 2) jt0.2.2.2.1 (p := t + 1 + 1) (by omega) (by rw [y2.row]; exact hTR)
    obtain ⟨hH, ea, eb, eu, ej, el⟩ := jt0.2.2.2.1.push (kd := 2) (p := t + 1 + 1) (by omega) (by rw [y2.row]; exact hTR) (by rw [y2.row]; exact hTV) (by decide) a1 b1
    have hTR1 : TR A1 (t + 1 + 1) (mI B (u + 2)) := hTR.keep (ea _ (by omega)) (ea _ (by omega)) (ea _ (by omega)) (ea _ (by omega))
    have rB : mI B1 (u + 2) = mI B (u + 2) := ((eb (u + 2) (by omega)).1).trans y2.row
    obtain ⟨⟨v2, A2⟩, a2, a3, a4, a5⟩ := putDown_c (w := t + 179) hTR1 hTV hpt (f.2.1.keep (fun q a b => ea q (by omega))) (by rw [(ea (t + 179) (by omega)).1]; exact f.1) (by omega)
    have a3 : Eo (fun q => t + 1 + 1 ≤ q ∧ q < t + 1 + 1 + 4) A1 A2 := a3
    have a4 : v2 = _ := a4
    have rl1 : RL u n I (mI B (u + 2) 8) (mI B (u + 2) 6) B1 := ((h.rl f).tl y2).keep (fun k _ _ => by rw [rB, y2.row]) (eu 20 (by decide))
    obtain ⟨⟨v3, B2⟩, b2, b3, b4, b5⟩ := playIt_r rl1 (by rw [rB]; exact hTV) (by rw [rB]; exact hpt)
    have b3 : RwE u B1 B2 := b3
    have b4 : v3 = _ := b4
    have b5 : mI B2 (u + 2) = _ := b5
    rw [rB] at b4 b5
    obtain ⟨tvp, l1⟩ := hTV.vP hpt
    have rg := ptP_rg (I := I) (n := n) (c := c) (m := m) (p := p) (deal := mI B (u + 2) 8) (mood := mI B (u + 2) 6) (r := mI B (u + 2)) l1
    have E15 : ∀ q, q = u + 5 ∨ q = u + 6 → Ea B1 B2 q := fun q hq => b3.1 q (by omega)
    have hE : AcE t u A A2 B0 B2 := ⟨(ea.up (fun q hq => by unfold CAc; omega)).tr (a3.up (fun q hq => by unfold CAc; omega)), (eb.up (fun q hq => by unfold RAc; omega)).tr (b3.1.up (fun q hq => by unfold RAc; omega)), fun k k8 k34 k38 => by rw [b3.2.1 k k34 k38]; exact eu k k8, fun k hk => by rw [b5, y2.row]; exact ptP_out hc l1 hp (by omega), fun k hk => by rw [(E15 (u + 5) (Or.inl rfl)).1]; exact el k hk⟩
    refine ⟨v2, A2, B2, ?_, ?_, ac0.tr hE, jt0.tab hE (by rw [b5]; exact a5) (by rw [b5]; exact tvp) (hH.keep (fun q a b => a3 q (by omega)) (E15 _ (Or.inl rfl)).1 (E15 _ (Or.inr rfl)).1 (b3.2.1 8 (by decide) (by decide))), Or.inr (Or.inr ?_)⟩
    · rw [ob a1, bo a2]
    · rw [ob b1, bo b2, b4, a4]
    · rw [a4]; exact rg.1
  · rw [if_neg w, if_neg (by decide), if_neg (by decide)]
    exact ⟨-3, A, B0, rfl, rfl, ac0, jt0, Or.inr (Or.inl rfl)⟩
theorem st_play : St_play Inv := by
  rintro t u T M p1 p2 ⟨Λ, h⟩
  obtain ⟨n, I, N, n1, n2, n3, n4⟩ := h.fitJ
  unfold FX11_play
  rw [ob n1]
  exact act_st (fc := FX11_makePlay t p1 p2) (fr := FX12_playNow u p1 p2) n2 (fun B hB e => play_act hB (n4.ref e) p1 p2)
