/-! ===== toEnd ===== -/
theorem tryAll_r {u n : Nat} {I : Nat → CI} {deal mood : Int32} {r : Nat → Int32} {M : Mem} (hr : mI M (u + 2) = r) (hG : GO r) (h8 : r 8 = deal) (hRL : ∀ K, TdE u M K → mI K (u + 2) 8 = deal → RL u n I deal mood K) (h14 : r 14 ≠ -1) : So (FX12_tryAll u M) (fun N => TdE u M N ∧ mI N (u + 2) = r ∧ (plL I n deal mood r = [] → mI N (u + 36) 0 = -1) ∧ ∀ mx, bst (ah I n deal mood 7 r) (plL I n deal mood r) = some mx → mI N (u + 36) 0 = Int32.ofNat mx.2 ∧ (mI N (u + 35) 0).toInt = if r 14 = 0 then mx.1 else - mx.1) := by
  rw [tryAll_eq]
  refine So.bind (show So (FX12_keepDeep u 0 M) _ from keepDeep_r (i := 0) (by decide)) (fun M1 h1 => ?_)
  obtain ⟨e1, e2, e3, e4, e5, e6⟩ := h1
  have t1 : TdE u M M1 := ⟨e1.up (fun q hq => by omega), fun k _ _ => by rw [(e1 u (by omega)).1], fun k _ => by rw [(e1 (u + 2) (by omega)).1]⟩
  have r1 : mI M1 (u + 2) = r := by rw [(e1 (u + 2) (by omega)).1, hr]
  have hF : FrD u 0 r M1 M1 (-1) (-1) 0 := ⟨TdE.rf, fun j hj => by rw [e2 j hj, hr], fun k _ => by rw [r1], e4, fun _ _ => rfl, fun _ _ => ⟨rfl, rfl, rfl, rfl⟩⟩
  refine frame_r (I := I) (n := n) (deal := deal) (mood := mood) 8 0 r M1 2 (by decide) hG hG.unp8 (Or.inl rfl) ⟨h8, fun K hK hk => hRL K (t1.tr hK) hk⟩ hF (fun X m hm hX => ?_) fuel (by show 2 + cst 8 ≤ 1000000; decide)
  obtain ⟨m, rfl⟩ : ∃ m', m = m' + 1 + 1 := ⟨m - 2, by omega⟩
  obtain ⟨i, bc, ba, x1, x2, x3, x4, x5, x6⟩ := hX
  rw [wl2_s]
  refine step_r x3 (by decide) hG (fun K k1 k2 => hRL K (t1.tr k1) (by rw [k2]; exact h8)) x1 (fun q1 q2 => absurd x2 (by
    rintro (w | w)
    · exact q1 w
    · omega)) (fun _ N hN => ?_)
  obtain ⟨z1, z2, z3⟩ := hN
  obtain ⟨o1, o2, o3, ⟨o4, o5, o6⟩, o7, o8⟩ := x3
  unfold upT
  refine So_gd (by decide) (So_nm (So_nm ?_))
  rw [if_pos (show Int32.ofNat 0 + (-1) < 0 by decide)]
  show So (wl2 (tstep u) (m + 1) (Int32.ofNat 0 + (-1)) N) _
  rw [wl2_s]
  show So (if Int32.ofNat 0 + (-1) < 0 then (FX12_putDeep u 0 N).bind (fun M6 => some M6) else _) _
  rw [if_pos (show Int32.ofNat 0 + (-1) < 0 by decide)]
  refine So.bind (show So (FX12_putDeep u 0 N) _ from putDeep_r (i := 0) (by decide)) (fun M6 h6 => So.ok ?_)
  obtain ⟨q1, q2, q3⟩ := h6
  have kk : ∀ j, 32 ≤ j → j < 37 → mI M6 (u + j) = mI X (u + j) := fun j a b => by rw [(q1 (u + j) (by omega)).1, z3 j a b]
  refine ⟨((t1.tr o1).tr z1).tr (put_td q1 q3), ?_, fun q => ?_, fun mx hmx => ⟨?_, ?_⟩⟩
  · refine deep_row (X := N) (d := 0) (fun j hj => ?_) (fun k hk => by rw [z2]) q2 q3
    rw [z3 32 (by omega) (by omega)]; exact o2 j hj
  · rw [kk 36 (by omega) (by omega), o5]; exact x5 h14 q
  · rw [kk 36 (by omega) (by omega), o5]; exact x6 mx h14 hmx
  · rw [kk 35 (by omega) (by omega), o6, x4, bv_s, if_neg h14, hmx]
theorem InvL.td {Λ : Lam} {t u T : Nat} {M N : Mem} (h : InvL Λ t u T M) (e : TdE u M N) (hr : mI N (u + 2) = mI M (u + 2)) : InvL Λ t u T N := by
  have hu := h.1
  have hT := h.2.1
  have E : ∀ q, ¬ (q = u ∨ q = u + 2 ∨ q = u + 18 ∨ q = u + 20 ∨ (u + 32 ≤ q ∧ q < u + 37)) → Ea M N q := e.1
  have hS : SR Λ N (u + 42) T (t + 1) (mI N (u + 2)) := by
    rw [hr]
    exact h.2.2.1.keep (fun q a b => E q (by omega)) (fun q a b => E q (by omega)) (Nat.le_refl _)
  have hH : HR N (t + 29) u := h.2.2.2.2.1.keep (fun q a b => E q (by omega)) (E _ (by omega)).1 (E _ (by omega)).1 (e.2.1 8 (by decide) (by decide))
  refine h.fin hS hH (fun q hq => E q (by unfold UsedC at hq; omega)) ?_ (fun k _ => by rw [(E t (by omega)).1]) (fun k hk => e.2.1 k (fun z => by rw [z] at hk; exact absurd hk (by decide)) (fun z => by rw [z] at hk; exact absurd hk (by decide)))
  rw [(E t (by omega)).1, e.2.1 1 (by decide) (by decide)]
  exact h.2.2.2.2.2.2.1.1
theorem st_toEnd : St_toEnd Inv := by
  rintro t u T M p1 ⟨Λ, h⟩
  have hu := h.1
  obtain ⟨hTR, hTV, _⟩ := id h.2.2.1
  have e10 : mI M (t + 1 + 1) 10 = mI M (u + 2) 14 := hTR.2.2.2.2.2.2.2.2.2.1
  have no : FX11_toEnd t p1 M = some (-1000, M) → FX12_toEnd u p1 M = some (-1000, sI M u 0 0) → ∃ v M1 M2, FX11_toEnd t p1 M = some (v, M1) ∧ FX12_toEnd u p1 M1 = some (v, M2) ∧ Inv t u T M2 := fun x y => ⟨-1000, M, sI M u 0 0, x, y, Λ, h.u0 0⟩
  have i1 : FX12_in p1.toInt64 0 1 = some (if 0 ≤ p1.toInt ∧ p1.toInt ≤ 1 then 1 else 0) := in_i p1 0 1
  by_cases c1 : 0 ≤ p1.toInt ∧ p1.toInt ≤ 1
  rotate_left
  · refine no ?_ ?_
    · unfold FX11_toEnd
      rw [jb]
      by_cases x : p1.toInt < 0
      · rw [if_pos (p_lt0.mpr x)]
      · rw [if_neg (fun q => x (p_lt0.mp q)), if_pos (p_gt.mpr (show (1 : Int32).toInt < _ by rw [show (1 : Int32).toInt = 1 from rfl]; omega))]
    · unfold FX12_toEnd
      rw [nmb, jb, ob i1, if_neg c1]
      split
      · rfl
      · split <;> rfl
  have x1 : ¬ p1 < 0 := fun q => by have := p_lt0.mp q; omega
  have x1' : ¬ 1 < p1 := fun q => by have := p_gt.mp q; rw [show (1 : Int32).toInt = 1 from rfl] at this; omega
  by_cases h14 : mI M (u + 2) 14 = -1
  · refine no ?_ ?_
    · unfold FX11_toEnd
      rw [jb, if_neg x1, if_neg x1', e10, if_neg (fun q => q h14)]
    · unfold FX12_toEnd
      rw [nmb, jb, u0_row, if_pos h14]
      split <;> rfl
  have h9 : mI M (u + 2) 9 = 2 := by
    apply Classical.byContradiction
    intro q
    exact h14 (hTV.2.2.2.2.2.2.2.2.2.2.2.2.2.2.2.2.1 q)
  have hG : GO (mI M (u + 2)) := ⟨hTV, h9⟩
  obtain ⟨n, I, N, n1, n2, n3, n4⟩ := h.fitJ
  obtain ⟨p, p1', p2, p3⟩ := hG.tn h14
  have hTRN : TR N (t + 1 + 1) (mI M (u + 2)) := by have := n2.2.2.1.1; rw [n3] at this; exact this
  have hWT : WTab N (t + 179) I n (mI M (u + 2) 8) (mI M (u + 2) 6) := by have := n4.2.1; rw [n3] at this; exact this
  have hW4 : mI N (t + 179) 4 = mI M (u + 2) 7 := by have := n4.1; rw [n3] at this; exact this
  have hLw : LwI (mI M (u + 2)) (mI M (u + 2) 2) n I := by have := n4.2.2; rw [n3] at this; exact this
  obtain ⟨x, y1, y2⟩ := playable_c hTRN hTV p1' hWT
  rw [← p2] at y1 y2
  have e10N : mI N (t + 1 + 1) 10 = mI M (u + 2) 14 := hTRN.2.2.2.2.2.2.2.2.2.1
  have hcls : FX11_toEnd t p1 M = if ¬ x = 0 then (bdM (FX1_most (t + 237) (t + 1 + 1) (t + 179) N) fun r22 M21 => jn1 (fun (v23 : Int32) => some (v23, M21)) fun j24 => if ¬ p1 = 0 then j24 (mI M21 (t + 237) 1) else j24 r22) else some (-1000, N) := by
    unfold FX11_toEnd
    rw [jb, if_neg x1, if_neg x1', e10, if_pos h14, ob n1, e10N, ob y1]
  -- the reference's run over any memory with this row
  have refr : ∀ K, InvL Λ t u T K → mI K (u + 2) = mI M (u + 2) → ∃ Y, FX12_tryAll u (sI K u 0 0) = some Y ∧ InvL Λ t u T Y ∧ mI Y (u + 2) = mI M (u + 2) ∧ (plL I n (mI M (u + 2) 8) (mI M (u + 2) 6) (mI M (u + 2)) = [] → mI Y (u + 36) 0 = -1) ∧ ∀ mx, bst (ah I n (mI M (u + 2) 8) (mI M (u + 2) 6) 7 (mI M (u + 2))) (plL I n (mI M (u + 2) 8) (mI M (u + 2) 6) (mI M (u + 2))) = some mx → mI Y (u + 36) 0 = Int32.ofNat mx.2 ∧ (mI Y (u + 35) 0).toInt = if mI M (u + 2) 14 = 0 then mx.1 else - mx.1 := fun K iK rK => by
    have r0 : mI (sI K u 0 0) (u + 2) = mI M (u + 2) := u0_row.trans rK
    have i0 := iK.u0 0
    have z20 : mI (sI K u 0 0) u 20 = 0 := i0.2.2.2.2.2.2.2.2.2.2.2.2
    obtain ⟨Y, a1, a2, a3, a4, a5⟩ := tryAll_r (u := u) (n := n) (I := I) (deal := mI M (u + 2) 8) (mood := mI M (u + 2) 6) (M := sI K u 0 0) r0 hG rfl (fun X hX h8 => by
      refine ⟨?_, by rw [hX.2.1 20 (by decide) (by decide)]; exact z20, h8, by rw [hX.2.2 6 (by omega), r0]⟩
      rw [hX.2.2 2 (by omega), r0]
      rcases hLw with z | ⟨i, len, b1, b2, b3⟩
      · exact Or.inl z
      · exact Or.inr ⟨i, len, b1, b2, b3.row (fun k ha hb => by rw [hX.2.2 k (by omega), r0])⟩) h14
    exact ⟨Y, a1, i0.td a2 (by rw [a3, r0]), a3, a4, a5⟩
  have hreq : ∀ K Y, mI K (u + 2) = mI M (u + 2) → FX12_tryAll u (sI K u 0 0) = some Y → FX12_toEnd u p1 K = if ¬ mI Y (u + 36) 0 = -1 then (jn1 (fun (v9 : Int32) => some (v9, Y)) fun j10 => if ¬ p1 = 1 then (if ¬ mI Y (u + 2) 14 = 0 then j10 (-(mI Y (u + 35) 0)) else j10 (mI Y (u + 35) 0)) else j10 (mI Y (u + 36) 0)) else some (-1000, Y) := fun K Y rK hY => by
    unfold FX12_toEnd
    rw [nmb, jb, u0_row, rK, if_neg (fun q => q h9), if_neg h14, ob i1, if_pos c1, if_pos (by decide), ob hY]
  by_cases x0 : x = 0
  · -- nothing can be played
    have hnil : plL I n (mI M (u + 2) 8) (mI M (u + 2) 6) (mI M (u + 2)) = [] := y2.nil.mp x0
    obtain ⟨Y, a1, a2, a3, a4, a5⟩ := refr N n2 n3
    refine ⟨-1000, N, Y, ?_, ?_, Λ, a2⟩
    · rw [hcls, if_neg (fun q => q x0)]
    · rw [hreq N Y n3 a1, if_neg (fun q => q (a4 hnil))]
  · have hne : plL I n (mI M (u + 2) 8) (mI M (u + 2) 6) (mI M (u + 2)) ≠ [] := fun q => x0 (y2.nil.mpr q)
    obtain ⟨mx, hmx⟩ : ∃ mx, bst (ah I n (mI M (u + 2) 8) (mI M (u + 2) 6) 7 (mI M (u + 2))) (plL I n (mI M (u + 2) 8) (mI M (u + 2) 6) (mI M (u + 2))) = some mx := by
      cases q : bst (ah I n (mI M (u + 2) 8) (mI M (u + 2) 6) 7 (mI M (u + 2))) (plL I n (mI M (u + 2) 8) (mI M (u + 2) 6) (mI M (u + 2))) with
      | none => exact absurd ((bst_mem _).1 q) hne
      | some mx => exact ⟨mx, rfl⟩
    have hm52 : mx.2 < 52 := (cs_mem.mp ((bst_mem _).2 mx hmx).1).1
    have hmr : -48000 ≤ mx.1 ∧ mx.1 ≤ 48000 := by
      obtain ⟨w1, w2⟩ := (bst_mem _).2 mx hmx
      have := ah_rg (I := I) (n := n) (deal := mI M (u + 2) 8) (mood := mI M (u + 2) 6) (k := 7) hG h14 w1
      rw [w2]; omega
    obtain ⟨M3, b1, b2, b3⟩ := copyT (b := t + 237 + 2 + 4 * 0) (p := t + 1 + 1) (by omega) hTRN
    obtain ⟨⟨v, M4⟩, d1, d2, d3, d4⟩ := best_c (t := t + 237) (w := t + 179) (n := n) (Y := 0) (I := I) (deal := mI M (u + 2) 8) (mood := mI M (u + 2) 6) 8 0 (mI M (u + 2)) 10 M3 (by decide) (by decide) b2 hG (hWT.keep (fun q a b => b3 q (by omega))) (by rw [(b3 (t + 179) (by omega)).1]; exact hW4) (by omega) (Or.inr hne)
    have d2 : v.toInt = bv I n (mI M (u + 2) 8) (mI M (u + 2) 6) 8 (mI M (u + 2)) := d2
    have d3 : Eo (fun q => (0 = 0 ∧ q = t + 237) ∨ (t + 237 + 2 + 4 * (0 + 1) ≤ q ∧ q < t + 237 + 38)) M3 M4 := d3
    have d4 : mI M4 (t + 237) 1 = Int32.ofNat mx.2 := d4 rfl mx hmx h14
    rw [bv_s, if_neg h14, hmx] at d2
    have d2 : v.toInt = mx.1 := d2
    have hmost : FX1_most (t + 237) (t + 1 + 1) (t + 179) N = some (v, M4) := by
      unfold FX1_most
      rw [ob (show FX8_copyFrom (t + 237 + 1 + 1 + 4 * 0) (t + 1 + 1) N = _ from b1), bo (show FX1_bestR (t + 237) 0 (t + 179) M3 = _ from d1)]
    have iM4 : InvL Λ t u T M4 := (n2.scr (b3.up (fun q hq => by omega))).scr (d3.up (fun q hq => by omega))
    have r4 : mI M4 (u + 2) = mI M (u + 2) := by rw [(d3 (u + 2) (by omega)).1, (b3 (u + 2) (by omega)).1, n3]
    obtain ⟨Y, a1, a2, a3, a4, a5⟩ := refr M4 iM4 r4
    obtain ⟨a6, a7⟩ := a5 mx hmx
    have n36 : ¬ mI Y (u + 36) 0 = -1 := fun q => by
      rw [a6] at q
      have := congrArg Int32.toInt q
      rw [nn_int (by omega), show (-1 : Int32).toInt = -1 from rfl] at this; omega
    have hp01 : p1 = 0 ∨ p1 = 1 := (pl_iff p1).mp c1
    refine ⟨if p1 = 0 then v else Int32.ofNat mx.2, M4, Y, ?_, ?_, Λ, a2⟩
    · rw [hcls, if_pos x0, bo hmost, jb1]
      by_cases q : p1 = 0
      · rw [if_neg (fun w => w q), if_pos q]
      · rw [if_pos q, if_neg q, d4]
    · rw [hreq M4 Y r4 a1, if_pos n36, jb1, a3, a6]
      rcases hp01 with q | q
      · rw [if_pos (show ¬ p1 = 1 by rw [q]; decide), if_pos q]
        by_cases e0 : mI M (u + 2) 14 = 0
        · rw [if_pos e0] at a7
          rw [if_neg (fun w => w e0), show mI Y (u + 35) 0 = v from Int32.toInt_inj.mp (by rw [a7, d2])]
        · rw [if_neg e0] at a7
          rw [if_pos e0, show -(mI Y (u + 35) 0) = v from Int32.toInt_inj.mp (by rw [i_neg (by omega), a7, d2]; omega)]
      · rw [if_neg (fun w => w q), if_neg (show ¬ p1 = 0 by rw [q]; decide)]
