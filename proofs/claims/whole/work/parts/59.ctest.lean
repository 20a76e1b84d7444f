/-! ===== the class reads what "and", "or" join ===== -/
theorem readBoth_c {B : Nat → Nat} {L h o p lv c od : Nat} {M : Mem} {K : List (Nat × Nat)} {rT : Nat → Int32 → Mem → Option (Int32 × Mem)} (s : CS B L h o M p lv K c) (ho : o = 0 ∨ o = 1) (hod : od ≤ 8) (hrT : od < 8 → RdT B L h o (od + 1) rT) : So (FX5_readBoth h (Int32.ofNat od) rT M) (Gp B L h o M K c (20 - 2 * od) (BoS B L o od p lv (20 - 2 * od)) (BoF B L o od p lv)) := by
  have hL := s.1.1
  unfold FX5_readBoth
  refine So_bdM (readPlain_c s ho hod hrT) (fun r2 M1 hr => ?_)
  refine So_wl3 (fun v3 v4 N => ∃ i, i ≤ 400 ∧ v4 = Int32.ofNat i ∧ CE h M N ∧ ((v3 = 1 ∧ ∃ p' lv' X f, CS B L h o N p' lv' (K ++ X) c ∧ DC X K.length (20 - 2 * od) f ∧ Chg h o M N f ∧ i ≤ X.length ∧ TB f ∧ ∀ u, SBoth B L u o p lv od p' lv' (20 - 2 * od) f) ∨ (v3 = 0 ∧ ∃ pf, CF B L h N pf ∧ BoF B L o od p lv pf))) (fun _ v4 _ => 400 - ix v4) ?_ fuel r2 0 M1 ⟨0, by omega, rfl, ?_⟩ (by unfold fuel; omega)
  · rintro v3 v4 N rec ⟨i, hi, rfl, g1, g⟩ hr
    refine So_jn1R (fun N2 => N2 = N ∧ Gp B L h o M K c (20 - 2 * od) (BoS B L o od p lv (20 - 2 * od)) (BoF B L o od p lv) (v3, N)) (fun N2 hC => ?_) (fun j9 hj9 => ?_)
    · obtain ⟨rfl, hC⟩ := hC
      refine So_gd ?_ (So.ok hC)
      rcases hC.2 with ⟨a, _⟩ | ⟨a, _⟩ <;> (simp only [] at a; rw [a]; rfl)
    rcases g with ⟨a, p', lv', X, f, b1, b2, b3, b4', b6, b5⟩ | ⟨a, pf, b1, b2⟩
    · subst a
      have b4 : i ≤ tkS B L p' := by have := b1.2.2.2.2.2.2.1; rw [List.length_append] at this; omega
      have exit : ¬ isW B L p' 27 → So (j9 N) (Gp B L h o M K c (20 - 2 * od) (BoS B L o od p lv (20 - 2 * od)) (BoF B L o od p lv)) := fun hx => hj9 _ ⟨rfl, g1, Or.inl ⟨rfl, p', lv', X, f, b1, b2, b3, b6, hx, b5⟩⟩
      by_cases c400 : 400 ≤ i
      · rw [if_pos (show (400 : Int32) ≤ Int32.ofNat i from (nn_le (a := 400) (by omega) (by omega)).mpr c400)]
        exact exit (fun z => absurd (K0lt hL b4 (by rw [z.1]; decide)) (by omega))
      rw [if_neg (show ¬ (400 : Int32) ≤ Int32.ofNat i from nle (n := 400) (by omega) (by decide)), if_neg (by decide)]
      refine So_bdM (skipWord_c (j := 27) b1 (by decide)) (fun r N1 hr1 => ?_)
      rcases hr1 with ⟨q1, q2, q3, q4, q5⟩ | ⟨q1, q2⟩
      · have q2 : r = 1 := q2
        have q4 : mI N1 (h + 2) = mI N (h + 2) := q4
        rw [q2, if_neg (by decide)]
        refine So_bdM (put_c (st := 11) (w := 0) q5) (fun r16 N2 hr2 => ?_)
        obtain ⟨w1, w2, w3, w4⟩ := hr2
        have w1 : r16 = Int32.ofNat (2 * (K ++ X).length) := w1
        have w3 : mI N2 (h + 2) 4 = mI N1 (h + 2) 4 := w3
        have w4 : CS B L h o N2 (tkE B L p') lv' (K ++ X ++ [(11, 0)]) c := w4
        subst w1
        have hkx : (K ++ X).length ≤ 400 := by have := b1.2.2.2.2.2.2.1; have := tkS_le B b1.2.1; omega
        refine So_bdM (readPlain_c w4 ho hod hrT) (fun r18 N3 hr3 => ?_)
        obtain ⟨t1, ⟨t2, p2, lv2, Y, g', t3, t4, t5, t7, t6⟩ | ⟨t2, pf, t3, t4⟩⟩ := hr3
        · have t2 : r18 = 1 := t2
          subst t2
          refine So.bind (leave_c t3) (fun N4 hr4 => So_nm ?_)
          obtain ⟨x1, x2, x3⟩ := hr4
          rw [s1]
          refine hr _ _ _ ⟨i + 1, by omega, rfl, (((g1.tr q3).tr w2).tr t1).tr x1, Or.inl ⟨rfl, p2, lv2, X ++ (11, 2 * ((K ++ X).length + 1 + Y.length)) :: Y, dJ 11 f g', ?_, ?_, ⟨fun z => ?_, fun y z => ?_⟩, ?_, TB_J (Or.inl rfl) b6 t7, fun u => ?_⟩⟩ (by rw [nn_ix (by omega), nn_ix (by omega)]; omega)
          · rw [← List.append_assoc]; exact x3
          · rw [List.length_append]
            refine DC_J (Or.inl rfl) b6 b2 ?_ (by omega)
            simp only [List.length_append, List.length_cons, List.length_nil] at t4; exact t4
          · show mI N4 (h + 2) 4 = 1
            rw [x2]; exact t5.1 (by rw [w3, q4]; exact b3.1 z)
          · have z : mI N4 (h + 2) 4 = 0 := z
            rw [x2] at z
            have zN : mI N (h + 2) 4 = 0 := by
              rcases b1.2.2.2.2.2.1.2.2.2 with zz | zz
              · exact zz
              · have := t5.1 (by rw [w3, q4]; exact zz)
                have this : mI N3 (h + 2) 4 = 1 := this
                rw [z] at this; exact absurd this (by decide)
            exact Ind_J (b3.2 y zN) (t5.2 y z)
          · simp only [List.length_append, List.length_cons]; omega
          · exact both_step (b5 u) q1 b6 (t6 u)
        · have t2 : r18 = 0 := t2
          subst t2
          refine So.bind (leave_f t3 (by omega)) (fun N4 hr4 => So_nm ?_)
          rw [s1]
          exact hr _ _ _ ⟨i + 1, by omega, rfl, (((g1.tr q3).tr w2).tr t1).tr hr4.1, Or.inr ⟨rfl, pf, hr4.2, fun u => both_fail (b5 u) q1 (t4 u)⟩⟩ (by rw [nn_ix (by omega), nn_ix (by omega)]; omega)
      · cases q2
        rw [if_pos rfl]
        exact exit q1
    · subst a
      have ok := hj9 N ⟨rfl, g1, Or.inr ⟨rfl, pf, b1, b2⟩⟩
      exact So.ite (fun _ => ok) (fun _ => by rw [if_pos rfl]; exact ok)
  · obtain ⟨t1, ⟨t2, p2, lv2, Y, g', t3, t4, t5, t7, t6⟩ | ⟨t2, pf, t3, t4⟩⟩ := hr
    · exact ⟨t1, Or.inl ⟨t2, p2, lv2, Y, g', t3, t4, t5, by omega, t7, fun u => both_one (t6 u)⟩⟩
    · exact ⟨t1, Or.inr ⟨t2, pf, t3, fun u => both_f1 (t4 u)⟩⟩
theorem readTest_c {B : Nat → Nat} {L h o p lv c od : Nat} {M : Mem} {K : List (Nat × Nat)} {rT : Nat → Int32 → Mem → Option (Int32 × Mem)} (s : CS B L h o M p lv K c) (ho : o = 0 ∨ o = 1) (hod : od ≤ 8) (hrT : od < 8 → RdT B L h o (od + 1) rT) : So (FX5_readTest h (Int32.ofNat od) rT M) (Gp B L h o M K c (20 - 2 * od) (TsS B L o od p lv (20 - 2 * od)) (TsF B L o od p lv)) := by
  have hL := s.1.1
  unfold FX5_readTest
  refine So_bdM (readBoth_c s ho hod hrT) (fun r2 M1 hr => ?_)
  refine So_wl3 (fun v3 v4 N => ∃ i, i ≤ 400 ∧ v4 = Int32.ofNat i ∧ CE h M N ∧ ((v3 = 1 ∧ ∃ p' lv' X f, CS B L h o N p' lv' (K ++ X) c ∧ DC X K.length (20 - 2 * od) f ∧ Chg h o M N f ∧ i ≤ X.length ∧ TB f ∧ ¬ isW B L p' 27 ∧ ∀ u, STest B L u o p lv od p' lv' (20 - 2 * od) f) ∨ (v3 = 0 ∧ ∃ pf, CF B L h N pf ∧ TsF B L o od p lv pf))) (fun _ v4 _ => 400 - ix v4) ?_ fuel r2 0 M1 ⟨0, by omega, rfl, ?_⟩ (by unfold fuel; omega)
  · rintro v3 v4 N rec ⟨i, hi, rfl, g1, g⟩ hr
    refine So_jn1R (fun N2 => N2 = N ∧ Gp B L h o M K c (20 - 2 * od) (TsS B L o od p lv (20 - 2 * od)) (TsF B L o od p lv) (v3, N)) (fun N2 hC => ?_) (fun j9 hj9 => ?_)
    · obtain ⟨rfl, hC⟩ := hC
      refine So_gd ?_ (So.ok hC)
      rcases hC.2 with ⟨a, _⟩ | ⟨a, _⟩ <;> (simp only [] at a; rw [a]; rfl)
    rcases g with ⟨a, p', lv', X, f, b1, b2, b3, b4', b6, b8, b5⟩ | ⟨a, pf, b1, b2⟩
    · subst a
      have b4 : i ≤ tkS B L p' := by have := b1.2.2.2.2.2.2.1; rw [List.length_append] at this; omega
      have exit : ¬ isW B L p' 26 → So (j9 N) (Gp B L h o M K c (20 - 2 * od) (TsS B L o od p lv (20 - 2 * od)) (TsF B L o od p lv)) := fun hx => hj9 _ ⟨rfl, g1, Or.inl ⟨rfl, p', lv', X, f, b1, b2, b3, b6, hx, b8, b5⟩⟩
      by_cases c400 : 400 ≤ i
      · rw [if_pos (show (400 : Int32) ≤ Int32.ofNat i from (nn_le (a := 400) (by omega) (by omega)).mpr c400)]
        exact exit (fun z => absurd (K0lt hL b4 (by rw [z.1]; decide)) (by omega))
      rw [if_neg (show ¬ (400 : Int32) ≤ Int32.ofNat i from nle (n := 400) (by omega) (by decide)), if_neg (by decide)]
      refine So_bdM (skipWord_c (j := 26) b1 (by decide)) (fun r N1 hr1 => ?_)
      rcases hr1 with ⟨q1, q2, q3, q4, q5⟩ | ⟨q1, q2⟩
      · have q2 : r = 1 := q2
        have q4 : mI N1 (h + 2) = mI N (h + 2) := q4
        rw [q2, if_neg (by decide)]
        refine So_bdM (put_c (st := 12) (w := 0) q5) (fun r16 N2 hr2 => ?_)
        obtain ⟨w1, w2, w3, w4⟩ := hr2
        have w1 : r16 = Int32.ofNat (2 * (K ++ X).length) := w1
        have w3 : mI N2 (h + 2) 4 = mI N1 (h + 2) 4 := w3
        have w4 : CS B L h o N2 (tkE B L p') lv' (K ++ X ++ [(12, 0)]) c := w4
        subst w1
        have hkx : (K ++ X).length ≤ 400 := by have := b1.2.2.2.2.2.2.1; have := tkS_le B b1.2.1; omega
        refine So_bdM (readBoth_c w4 ho hod hrT) (fun r18 N3 hr3 => ?_)
        obtain ⟨t1, ⟨t2, p2, lv2, Y, g', t3, t4, t5, t7, t8, t6⟩ | ⟨t2, pf, t3, t4⟩⟩ := hr3
        · have t2 : r18 = 1 := t2
          subst t2
          refine So.bind (leave_c t3) (fun N4 hr4 => So_nm ?_)
          obtain ⟨x1, x2, x3⟩ := hr4
          rw [s1]
          refine hr _ _ _ ⟨i + 1, by omega, rfl, (((g1.tr q3).tr w2).tr t1).tr x1, Or.inl ⟨rfl, p2, lv2, X ++ (12, 2 * ((K ++ X).length + 1 + Y.length)) :: Y, dJ 12 f g', ?_, ?_, ⟨fun z => ?_, fun y z => ?_⟩, ?_, TB_J (Or.inr rfl) b6 t7, t8, fun u => ?_⟩⟩ (by rw [nn_ix (by omega), nn_ix (by omega)]; omega)
          · rw [← List.append_assoc]; exact x3
          · rw [List.length_append]
            refine DC_J (Or.inr rfl) b6 b2 ?_ (by omega)
            simp only [List.length_append, List.length_cons, List.length_nil] at t4; exact t4
          · show mI N4 (h + 2) 4 = 1
            rw [x2]; exact t5.1 (by rw [w3, q4]; exact b3.1 z)
          · have z : mI N4 (h + 2) 4 = 0 := z
            rw [x2] at z
            have zN : mI N (h + 2) 4 = 0 := by
              rcases b1.2.2.2.2.2.1.2.2.2 with zz | zz
              · exact zz
              · have := t5.1 (by rw [w3, q4]; exact zz)
                have this : mI N3 (h + 2) 4 = 1 := this
                rw [z] at this; exact absurd this (by decide)
            exact Ind_J (b3.2 y zN) (t5.2 y z)
          · simp only [List.length_append, List.length_cons]; omega
          · exact test_step (b5 u) q1 b6 (t6 u)
        · have t2 : r18 = 0 := t2
          subst t2
          refine So.bind (leave_f t3 (by omega)) (fun N4 hr4 => So_nm ?_)
          rw [s1]
          exact hr _ _ _ ⟨i + 1, by omega, rfl, (((g1.tr q3).tr w2).tr t1).tr hr4.1, Or.inr ⟨rfl, pf, hr4.2, fun u => test_fail (b5 u) q1 (t4 u)⟩⟩ (by rw [nn_ix (by omega), nn_ix (by omega)]; omega)
      · cases q2
        rw [if_pos rfl]
        exact exit q1
    · subst a
      have ok := hj9 N ⟨rfl, g1, Or.inr ⟨rfl, pf, b1, b2⟩⟩
      exact So.ite (fun _ => ok) (fun _ => by rw [if_pos rfl]; exact ok)
  · obtain ⟨t1, ⟨t2, p2, lv2, Y, g', t3, t4, t5, t7, t8, t6⟩ | ⟨t2, pf, t3, t4⟩⟩ := hr
    · exact ⟨t1, Or.inl ⟨t2, p2, lv2, Y, g', t3, t4, t5, by omega, t7, t8, fun u => test_one (t6 u)⟩⟩
    · exact ⟨t1, Or.inr ⟨t2, pf, t3, fun u => test_f1 (t4 u)⟩⟩
theorem rdT {B : Nat → Nat} {L h o : Nat} (ho : o = 0 ∨ o = 1) : ∀ (n od : Nat), od ≤ 8 → 9 ≤ n + od → RdT B L h o od (GX5_readTest n)
  | 0, od, h1, h2 => by omega
  | n + 1, od, h1, h2 => fun M p lv K c s => readTest_c s ho h1 (fun h8 => rdT ho n (od + 1) (by omega) (by omega))
