theorem dealOut_c {b s d0 d : Nat} {M : Mem} (hs : s ≤ 1000003) (hd : d0 < 2) (hd' : d = 1 - d0) (h6 : mI M b 6 = Int32.ofNat d0) : So (FX8_dealOut b (Int32.ofNat s) M) (fun r => r.1 = Int32.ofNat (dlS s 13).2 ∧ DoE b s d M r.2) := by
  have hd2 : d < 2 := by omega
  unfold FX8_dealOut
  refine So_nm (So_nm (So_nm (So_nm ?_)))
  rw [h6, show (1 : Int32) - Int32.ofNat d0 = Int32.ofNat d from by rw [hd']; exact nn_sub (a := 1) (by omega) (by omega)]
  generalize hM6 : sJ (sJ (sJ (sI M b 6 (Int32.ofNat d)) (b + 1) 0 0) (b + 1) 1 0) b 3 0 = M6
  have full : Bs 4503599627370495 (dlS s 0).1 := fun c => by
    show (tn 4503599627370495).testBit c = (decide (c < 52) && true)
    rw [show tn 4503599627370495 = 2 ^ 52 - 1 from by decide, Nat.testBit_two_pow_sub_one, Bool.and_true]
  refine So_wl4 (fun v7 v8 v9 N => ∃ i, i ≤ 13 ∧ v9 = Int32.ofNat i ∧ v8 = Int32.ofNat (dlS s i).2 ∧ Bs v7 (dlS s i).1 ∧ Eo (fun q => q = b ∨ q = b + 1) M N ∧ (∀ p, p < 2 → Bs (mJ N (b + 1) p) (fun c => decide (dlO s d i c = Int32.ofNat p))) ∧ mJ N b 3 = 0 ∧ mI N b 6 = Int32.ofNat d ∧ mI N b 12 = mI M b 12 ∧ (i = 13 → mI N b 7 = Int32.ofNat (dlC s 12))) (fun _ _ v9 _ => 20 - ix v9) ?_ fuel _ _ _ M6 ⟨0, by omega, rfl, rfl, full, ?_, ?_, ?_, ?_, ?_, fun z => absurd z (by omega)⟩ (by unfold fuel; omega)
  · rintro v7 v8 v9 N rec ⟨i, hi, rfl, rfl, hB, e1, e2, e3, e4, e5, e6⟩ hr
    by_cases z : i = 13
    · subst z
      rw [if_pos (by decide)]
      refine So.bindE rfl (So_nm (So_nm (So_nm (So.ok ⟨rfl, ?_⟩))))
      generalize hW : sI (sI (sI (sI (sI (sI (sJ N b 4 0) b 9 0) b 8 0) b 11 (-1)) b 10 (-1)) b 5 1) b 12 (mI (sI (sI (sI (sI (sI (sJ N b 4 0) b 9 0) b 8 0) b 11 (-1)) b 10 (-1)) b 5 1) b 12 + 1) = W
      refine ⟨fun q hq => ?_, ?_, ?_, ?_, ?_, ?_, ?_, ?_, ?_, ?_, ?_, ?_, ?_⟩
      · show Ea M W q
        rw [← hW]
        refine (e1 q hq).tr ?_
        have : q ≠ b := fun z => hq (Or.inl z)
        (repeat (first | exact Ea.rf _ _ | refine Ea.tr ?_ (Ea_sI (by omega)) | refine Ea.tr ?_ (Ea_sJ (by omega))))
      · show Bs (mJ W (b + 1) 0) _
        have : mJ W (b + 1) 0 = mJ N (b + 1) 0 := by rw [← hW]; simp (disch := omega) only [mI_n1, mI_n2, mI_e, mJ_n1, mJ_n2, mJ_e, mI_sJ, mI_sR, mJ_sI, mJ_sR, mR_sI, mR_sJ]
        rw [this]; exact e2 0 (by decide)
      · show Bs (mJ W (b + 1) 1) _
        have : mJ W (b + 1) 1 = mJ N (b + 1) 1 := by rw [← hW]; simp (disch := omega) only [mI_n1, mI_n2, mI_e, mJ_n1, mJ_n2, mJ_e, mI_sJ, mI_sR, mJ_sI, mJ_sR, mR_sI, mR_sJ]
        rw [this]; exact e2 1 (by decide)
      · show mJ W b 3 = 0
        rw [← hW]; simp (disch := omega) only [mI_n1, mI_n2, mI_e, mJ_n1, mJ_n2, mJ_e, mI_sJ, mI_sR, mJ_sI, mJ_sR, mR_sI, mR_sJ]; exact e3
      · show mJ W b 4 = 0
        rw [← hW]; simp (disch := omega) only [mI_n1, mI_n2, mI_e, mJ_n1, mJ_n2, mJ_e, mI_sJ, mI_sR, mJ_sI, mJ_sR, mR_sI, mR_sJ]
      · show mI W b 5 = 1
        rw [← hW]; simp (disch := omega) only [mI_n1, mI_n2, mI_e, mJ_n1, mJ_n2, mJ_e, mI_sJ, mI_sR, mJ_sI, mJ_sR, mR_sI, mR_sJ]
      · show mI W b 6 = _
        rw [← hW]; simp (disch := omega) only [mI_n1, mI_n2, mI_e, mJ_n1, mJ_n2, mJ_e, mI_sJ, mI_sR, mJ_sI, mJ_sR, mR_sI, mR_sJ]; exact e4
      · show mI W b 7 = _
        rw [← hW]; simp (disch := omega) only [mI_n1, mI_n2, mI_e, mJ_n1, mJ_n2, mJ_e, mI_sJ, mI_sR, mJ_sI, mJ_sR, mR_sI, mR_sJ]; exact e6 rfl
      · show mI W b 8 = _
        rw [← hW]; simp (disch := omega) only [mI_n1, mI_n2, mI_e, mJ_n1, mJ_n2, mJ_e, mI_sJ, mI_sR, mJ_sI, mJ_sR, mR_sI, mR_sJ]
      · show mI W b 9 = _
        rw [← hW]; simp (disch := omega) only [mI_n1, mI_n2, mI_e, mJ_n1, mJ_n2, mJ_e, mI_sJ, mI_sR, mJ_sI, mJ_sR, mR_sI, mR_sJ]
      · show mI W b 10 = _
        rw [← hW]; simp (disch := omega) only [mI_n1, mI_n2, mI_e, mJ_n1, mJ_n2, mJ_e, mI_sJ, mI_sR, mJ_sI, mJ_sR, mR_sI, mR_sJ]
      · show mI W b 11 = _
        rw [← hW]; simp (disch := omega) only [mI_n1, mI_n2, mI_e, mJ_n1, mJ_n2, mJ_e, mI_sJ, mI_sR, mJ_sI, mJ_sR, mR_sI, mR_sJ]
      · show mI W b 12 = _
        rw [← hW]; simp (disch := omega) only [mI_n1, mI_n2, mI_e, mJ_n1, mJ_n2, mJ_e, mI_sJ, mI_sR, mJ_sI, mJ_sR, mR_sI, mR_sJ]; rw [e5]
    · obtain ⟨f1, f2, f3, f4⟩ := dl_step hs (show i < 52 by omega) hB
      have hc := (dlC_in (s0 := s) (i := i) (by omega)).1
      generalize hx : (if i % 2 = 1 then d else 1 - d) = x
      have hx2 : x < 2 := by rw [← hx]; split <;> omega
      rw [if_neg (show ¬ (13 : Int32) ≤ Int32.ofNat i from nle (n := 13) (by omega) (by decide)), f1]
      refine So_nm (So_gd f4 (So.bindE f2 (So.bindE (bit_nn hc) (So_nm ?_))))
      refine So_jn1R (fun v => v = Int32.ofNat x) (fun v22 hv => ?_) (fun j23 hj => ?_)
      · subst hv
        refine So_jn1R (fun N' => Eo (fun q => q = b ∨ q = b + 1) M N' ∧ (∀ p, p < 2 → Bs (mJ N' (b + 1) p) (fun c => decide (dlO s d (i + 1) c = Int32.ofNat p))) ∧ mJ N' b 3 = 0 ∧ mI N' b 6 = Int32.ofNat d ∧ mI N' b 12 = mI M b 12 ∧ (i + 1 = 13 → mI N' b 7 = Int32.ofNat (dlC s 12))) (fun M25 hM => So_nm ?_) (fun j26 hj26 => ?_)
        · rw [s1]
          exact hr _ _ _ _ ⟨i + 1, by omega, rfl, rfl, f3, hM⟩ (by rw [nn_ix (by omega), nn_ix (by omega)]; omega)
        · by_cases y : i = 12
          · subst y
            rw [if_neg (by decide)]
            refine So_nm (hj26 _ ⟨e1.tr (Eo_sI (Or.inl rfl)), fun p hp => ?_, ?_, ?_, ?_, fun _ => by rw [mI_e]⟩)
            · rw [mJ_sI]
              refine (e2 p hp).congr (fun c _ => ?_)
              show _ = decide ((if c = dlC s 12 then (3 : Int32) else dlO s d 12 c) = Int32.ofNat p)
              by_cases w : c = dlC s 12
              · have hl : dlO s d 12 c = -1 := dlO_left 12 c (by rw [w]; exact (dlC_in (by omega)).2)
                rw [if_pos w, hl]
                obtain rfl | rfl : p = 0 ∨ p = 1 := by omega
                · decide
                · decide
              · rw [if_neg w]
            · rw [mJ_sI]; exact e3
            · rw [mI_n2 (by decide)]; exact e4
            · rw [mI_n2 (by decide)]; exact e5
          · rw [if_pos (show ¬ Int32.ofNat i = 12 from fun w => y ((nn_eq (b := 12) (by omega) (by omega)).mp w))]
            have ip : FX11_isPlayer (Int32.ofNat x) = some 1 := by
              rw [isPlayer_eq, if_pos]
              obtain rfl | rfl : x = 0 ∨ x = 1 := by omega
              · exact Or.inl rfl
              · exact Or.inr rfl
            refine So.bindE ip ?_
            rw [if_neg (by decide), nn_ix (by omega)]
            refine So_gd (inb_nn hx2 (by decide)) (So.bindE (bit_nn hc) (So_gd (inb_nn hx2 (by decide)) (So_nm (hj26 _ ⟨e1.tr (Eo_sJ (Or.inr rfl)), fun p hp => ?_, ?_, e4, e5, fun w => absurd w (by omega)⟩))))
            · by_cases w : p = x
              · subst w
                rw [mJ_e]
                refine ((e2 p hp).or (Bs.one hc)).congr (fun c _ => ?_)
                rw [dlO_new (by omega) hp hd2, hx]; simp
              · rw [mJ_n2 w]
                refine (e2 p hp).congr (fun c _ => ?_)
                rw [dlO_new (by omega) hp hd2, hx]; simp [w]
            · rw [mJ_n1 (by omega)]; exact e3
      · rw [show irm (Int32.ofNat i) 2 = Int32.ofNat (i % 2) from nn_rem (b := 2) (by omega) (by decide), e4]
        by_cases w : i % 2 = 1
        · rw [if_pos (show ¬ Int32.ofNat (i % 2) = 0 from by rw [w]; decide)]
          exact hj _ (by rw [← hx, if_pos w])
        · rw [if_neg (show ¬ ¬ Int32.ofNat (i % 2) = 0 from fun v => v (by rw [show i % 2 = 0 by omega]; rfl))]
          exact hj _ (by rw [← hx, if_neg w]; exact nn_sub (a := 1) (by omega) (by omega))
  · rw [← hM6]
    intro q hq
    have h1 : q ≠ b := fun z => hq (Or.inl z)
    have h2 : q ≠ b + 1 := fun z => hq (Or.inr z)
    (repeat (first | exact Ea.rf _ _ | refine Ea.tr ?_ (Ea_sI (by omega)) | refine Ea.tr ?_ (Ea_sJ (by omega))))
  · intro p hp
    have : mJ M6 (b + 1) p = 0 := by
      obtain rfl | rfl : p = 0 ∨ p = 1 := by omega
      · rw [← hM6]; simp (disch := omega) only [mI_n1, mI_n2, mI_e, mJ_n1, mJ_n2, mJ_e, mI_sJ, mI_sR, mJ_sI, mJ_sR, mR_sI, mR_sJ]
      · rw [← hM6]; simp (disch := omega) only [mI_n1, mI_n2, mI_e, mJ_n1, mJ_n2, mJ_e, mI_sJ, mI_sR, mJ_sI, mJ_sR, mR_sI, mR_sJ]
    rw [this]
    refine Bs.zero.congr (fun c _ => ?_)
    have hm : ¬ ((-1 : Int32) = Int32.ofNat p) := fun y => by
      have := congrArg Int32.toInt y
      rw [nn_int (by omega), show (-1 : Int32).toInt = -1 from rfl] at this
      omega
    show false = decide ((-1 : Int32) = Int32.ofNat p)
    simp [hm]
  · rw [← hM6]; simp (disch := omega) only [mI_n1, mI_n2, mI_e, mJ_n1, mJ_n2, mJ_e, mI_sJ, mI_sR, mJ_sI, mJ_sR, mR_sI, mR_sJ]
  · rw [← hM6]; simp (disch := omega) only [mI_n1, mI_n2, mI_e, mJ_n1, mJ_n2, mJ_e, mI_sJ, mI_sR, mJ_sI, mJ_sR, mR_sI, mR_sJ]
  · rw [← hM6]; simp (disch := omega) only [mI_n1, mI_n2, mI_e, mJ_n1, mJ_n2, mJ_e, mI_sJ, mI_sR, mJ_sI, mJ_sR, mR_sI, mR_sJ]
