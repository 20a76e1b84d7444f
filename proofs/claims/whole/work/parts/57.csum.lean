/-! ===== the class reads terms and sums ===== -/
def TmS (B : Nat → Nat) (L o od p lv d : Nat) (p' lv' : Nat) (f : Den) : Prop := (∀ op, OpG B L p' op → op = 20 ∨ op = 21) ∧ ∀ u tst, STerm B L u o tst p lv od p' lv' d f
def TmF (B : Nat → Nat) (L o od p lv : Nat) (pf : Nat) : Prop := ∀ u tst, FTerm B L u o tst p lv od pf
theorem STerm.up {B : Nat → Nat} {L u o p lv od p' lv' d d' : Nat} {tst : Int32} {f : Den} (h : STerm B L u o tst p lv od p' lv' d f) (hd : d ≤ d') : STerm B L u o tst p lv od p' lv' d' f := fun N C P Q hc hb hk => h N C P Q hc hb (fun N' Y R Y' pf c hR hw hD => hk N' Y R Y' pf c hR hw (hD.up hd))
theorem SSum.up {B : Nat → Nat} {L u o p lv od p' lv' d d' : Nat} {tst : Int32} {f : Den} (h : SSum B L u o tst p lv od p' lv' d f) (hd : d ≤ d') : SSum B L u o tst p lv od p' lv' d' f := fun N C P Q hc hl hi hk => h N C P Q hc hl hi (fun N' Y R Y' pf c hR hw hD => hk N' Y R Y' pf c hR hw (hD.up hd))
theorem K0lt {B : Nat → Nat} {L p : Nat} (hL : L ≤ 400) {i : Nat} (hi : i ≤ tkS B L p) (hk : tkK B L p ≠ 0) : i < 400 := by
  have := tk3_lt hk; omega
theorem OpG_0 {B : Nat → Nat} {L p op : Nat} (h : OpG B L p op) : tkK B L p ≠ 0 := OpG_k h
theorem readTerm_c {B : Nat → Nat} {L h o p lv c od : Nat} {M : Mem} {K : List (Nat × Nat)} {rS : Nat → Int32 → Mem → Option (Int32 × Mem)} (s : CS B L h o M p lv K c) (ho : o = 0 ∨ o = 1) (hod : od ≤ 8) (hrS : od < 8 → RdS B L h o (od + 1) rS) : So (FX5_readTerm h (Int32.ofNat od) rS M) (Gp B L h o M K c (18 - 2 * od) (TmS B L o od p lv (18 - 2 * od)) (TmF B L o od p lv)) := by
  have hL := s.1.1
  unfold FX5_readTerm
  refine So_bdM (readPart_c s ho hod hrS) (fun r2 M1 hr => ?_)
  refine So_wl3 (fun v3 v4 N => ∃ i, i ≤ 400 ∧ v4 = Int32.ofNat i ∧ CE h M N ∧ ((v3 = 1 ∧ ∃ p' lv' X f, CS B L h o N p' lv' (K ++ X) c ∧ DC X K.length (18 - 2 * od) f ∧ Chg h o M N f ∧ i ≤ X.length ∧ ∀ u tst, STerm B L u o tst p lv od p' lv' (18 - 2 * od) f) ∨ (v3 = 0 ∧ ∃ pf, CF B L h N pf ∧ TmF B L o od p lv pf))) (fun _ v4 _ => 400 - ix v4) ?_ fuel r2 0 M1 ⟨0, by omega, rfl, ?_⟩ (by unfold fuel; omega)
  · rintro v3 v4 N rec ⟨i, hi, rfl, g⟩ hr
    refine So_jn0C (Gp B L h o M K c (18 - 2 * od) (TmS B L o od p lv (18 - 2 * od)) (TmF B L o od p lv) (v3, N)) (fun hC => So_gd ?_ (So.ok hC)) (fun j8 hj8 => ?_)
    · rcases hC.2 with ⟨a, _⟩ | ⟨a, _⟩ <;> (simp only [] at a; rw [a]; rfl)
    obtain ⟨g1, ⟨a, p', lv', X, f, b1, b2, b3, b4', b5⟩ | ⟨a, pf, b1, b2⟩⟩ := g
    · have a : v3 = 1 := a
      subst a
      have b4 : i ≤ tkS B L p' := by have := b1.2.2.2.2.2.2.1; rw [List.length_append] at this; omega
      have exit : (∀ op, OpG B L p' op → op = 20 ∨ op = 21) → So j8 (Gp B L h o M K c (18 - 2 * od) (TmS B L o od p lv (18 - 2 * od)) (TmF B L o od p lv)) := fun hx => hj8 ⟨g1, Or.inl ⟨rfl, p', lv', X, f, b1, b2, b3, hx, b5⟩⟩
      by_cases c400 : 400 ≤ i
      · rw [if_pos (show (400 : Int32) ≤ Int32.ofNat i from (nn_le (a := 400) (by omega) (by omega)).mpr c400)]
        exact exit (fun op hop => absurd (K0lt hL b4 (OpG_k hop)) (by omega))
      rw [if_neg (show ¬ (400 : Int32) ≤ Int32.ofNat i from nle (n := 400) (by omega) (by decide)), if_neg (by decide)]
      obtain ⟨v42, e42, s42⟩ := isSign_c (c := 42) b1.1 b1.2.2.1 (by decide)
      obtain ⟨v47, e47, s47⟩ := isSign_c (c := 47) b1.1 b1.2.2.1 (by decide)
      obtain ⟨v37, e37, s37⟩ := isSign_c (c := 37) b1.1 b1.2.2.1 (by decide)
      rw [show (42 : Int32) = Int32.ofNat 42 from rfl, show (47 : Int32) = Int32.ofNat 47 from rfl, show (37 : Int32) = Int32.ofNat 37 from rfl, e42]
      refine So.bindE rfl (So_jn0C (∃ op, OpG B L p' op ∧ 22 ≤ op ∧ op ≤ 24) (fun hop => So.bindE rfl ?_) (fun j12 hj12 => ?_))
      · obtain ⟨op, hop, hop2⟩ := hop
        have hk := OpG_k hop
        refine So_jn1R (fun v => v = Int32.ofNat (op - 18)) (fun v15 hv15 => ?_) (fun j16 hj16 => ?_)
        · subst hv15
          refine So_bdM (adv_c1 b1 hk) (fun r N1 hr1 => ?_)
          obtain ⟨q1, q2, q3, q4⟩ := hr1
          have q3 : mI N1 (h + 2) = mI N (h + 2) := q3
          have q4 : CS B L h o N1 (tkE B L p') lv' (K ++ X) (c + 1) := q4
          have hm := tkS_lt B hk
          refine So_bdM (readPart_c q4 ho hod hrS) (fun r' N' hr' => ?_)
          obtain ⟨t1, ⟨t2, p2, lv2, Y, g', t3, t4, t5, t6⟩ | ⟨t2, pf, t3, t4⟩⟩ := hr'
          · have t2 : r' = 1 := t2
            subst t2
            refine So_bdM (put_c (st := op - 18) (w := 0) t3) (fun r3 N3 hr3 => So_nm ?_)
            obtain ⟨w1, w2, w3, w4⟩ := hr3
            have w3 : mI N3 (h + 2) 4 = mI N' (h + 2) 4 := w3
            have w4 : CS B L h o N3 p2 lv2 (K ++ X ++ Y ++ [(op - 18, 0)]) c := w4
            rw [s1]
            refine hr _ _ _ ⟨i + 1, by omega, rfl, ((g1.tr q2).tr t1).tr w2, Or.inl ⟨rfl, p2, lv2, X ++ Y ++ [(op - 18, 0)], dBin (op - 18) f g', ?_, ?_, ⟨fun z => ?_, fun y z => ?_⟩, by simp only [List.length_append, List.length_cons, List.length_nil]; omega, fun u tst => ?_⟩⟩ (by rw [nn_ix (by omega), nn_ix (by omega)]; omega)
            · simpa only [List.append_assoc] using w4
            · have e1 : 18 - 2 * od = (17 - 2 * od) + 1 := by omega
              rw [e1] at b2 ⊢
              refine DC_bin ⟨by omega, by omega⟩ b2 ?_ (Nat.le_refl _)
              rw [List.length_append] at t4; exact t4
            · show mI N3 (h + 2) 4 = 1
              rw [w3]; exact t5.1 (by rw [q3]; exact b3.1 z)
            · have z : mI N3 (h + 2) 4 = 0 := z
              rw [w3] at z
              have i2 := t5.2 y z
              have zN : mI N (h + 2) 4 = 0 := by
                rcases b1.2.2.2.2.2.1.2.2.2 with zz | zz
                · exact zz
                · have := t5.1 (by rw [q3]; exact zz)
                  have this : mI N' (h + 2) 4 = 1 := this
                  rw [z] at this; exact absurd this (by decide)
              exact Ind_bin (b3.2 y zN) i2
            · have e1 : 18 - 2 * od = (17 - 2 * od) + 1 := by omega
              rw [e1] at b5 ⊢
              exact term_step (b5 u tst) hop hop2 (t6 u tst) (Nat.le_refl _)
          · have t2 : r' = 0 := t2
            subst t2
            refine So_bdM (put_f t3) (fun r3 N3 hr3 => So_nm ?_)
            rw [s1]
            exact hr _ _ _ ⟨i + 1, by omega, rfl, ((g1.tr q2).tr t1).tr hr3.1, Or.inr ⟨rfl, pf, hr3.2, fun u tst => term_fail (b5 u tst) hop hop2 (t4 u tst)⟩⟩ (by rw [nn_ix (by omega), nn_ix (by omega)]; omega)
        · rcases s42 with ⟨rfl, g42⟩ | ⟨rfl, g42⟩
          · rw [if_neg (by decide)]
            have : op = 22 := OpG_inj hop (Or.inr (Or.inr (Or.inl ⟨g42, rfl⟩)))
            exact hj16 _ (by rw [this]; rfl)
          rw [if_pos rfl, e47]
          refine So.bindE rfl ?_
          rcases s47 with ⟨rfl, g47⟩ | ⟨rfl, g47⟩
          · rw [if_neg (by decide)]
            have : op = 23 := OpG_inj hop (Or.inr (Or.inr (Or.inr (Or.inl ⟨g47, rfl⟩))))
            exact hj16 _ (by rw [this]; rfl)
          rw [if_pos rfl]
          have : op = 24 := by
            rcases hop with ⟨z, e⟩ | ⟨z, e⟩ | ⟨z, e⟩ | ⟨z, e⟩ | ⟨z, e⟩
            · omega
            · omega
            · exact absurd z g42
            · exact absurd z g47
            · exact e
          exact hj16 _ (by rw [this]; rfl)
      · rcases s42 with ⟨rfl, g42⟩ | ⟨rfl, g42⟩
        · rw [if_pos (by decide)]
          exact hj12 ⟨22, Or.inr (Or.inr (Or.inl ⟨g42, rfl⟩)), by decide, by decide⟩
        rw [if_neg (by decide), e47]
        refine So.bindE rfl ?_
        rcases s47 with ⟨rfl, g47⟩ | ⟨rfl, g47⟩
        · rw [if_pos (by decide)]
          exact hj12 ⟨23, Or.inr (Or.inr (Or.inr (Or.inl ⟨g47, rfl⟩))), by decide, by decide⟩
        rw [if_neg (by decide), e37]
        refine So.bindE rfl ?_
        rcases s37 with ⟨rfl, g37⟩ | ⟨rfl, g37⟩
        · rw [if_neg (by decide)]
          exact hj12 ⟨24, Or.inr (Or.inr (Or.inr (Or.inr ⟨g37, rfl⟩))), by decide, by decide⟩
        rw [if_pos rfl]
        refine exit (fun op hop => ?_)
        rcases hop with ⟨z, e⟩ | ⟨z, e⟩ | ⟨z, e⟩ | ⟨z, e⟩ | ⟨z, e⟩
        · exact Or.inl e
        · exact Or.inr e
        · exact absurd z g42
        · exact absurd z g47
        · exact absurd z g37
    · have a : v3 = 0 := a
      subst a
      have ok := hj8 ⟨g1, Or.inr ⟨rfl, pf, b1, b2⟩⟩
      exact So.ite (fun _ => ok) (fun _ => by rw [if_pos rfl]; exact ok)
  · obtain ⟨t1, ⟨t2, p2, lv2, Y, g', t3, t4, t5, t6⟩ | ⟨t2, pf, t3, t4⟩⟩ := hr
    · exact ⟨t1, Or.inl ⟨t2, p2, lv2, Y, g', t3, t4.up (by omega), t5, by omega, fun u tst => (term_one (t6 u tst)).up (by omega)⟩⟩
    · exact ⟨t1, Or.inr ⟨t2, pf, t3, fun u tst => term_f1 (t4 u tst)⟩⟩
theorem readSum_c {B : Nat → Nat} {L h o p lv c od : Nat} {M : Mem} {K : List (Nat × Nat)} {rS : Nat → Int32 → Mem → Option (Int32 × Mem)} (s : CS B L h o M p lv K c) (ho : o = 0 ∨ o = 1) (hod : od ≤ 8) (hrS : od < 8 → RdS B L h o (od + 1) rS) : So (FX5_readSum h (Int32.ofNat od) rS M) (Gp B L h o M K c (19 - 2 * od) (SmS B L o od p lv (19 - 2 * od)) (SmF B L o od p lv)) := by
  have hL := s.1.1
  unfold FX5_readSum
  refine So_bdM (readTerm_c s ho hod hrS) (fun r2 M1 hr => ?_)
  refine So_wl3 (fun v3 v4 N => ∃ i, i ≤ 400 ∧ v4 = Int32.ofNat i ∧ CE h M N ∧ ((v3 = 1 ∧ ∃ p' lv' X f, CS B L h o N p' lv' (K ++ X) c ∧ DC X K.length (19 - 2 * od) f ∧ Chg h o M N f ∧ i ≤ X.length ∧ (∀ op, OpG B L p' op → op = 20 ∨ op = 21) ∧ ∀ u tst, SSum B L u o tst p lv od p' lv' (19 - 2 * od) f) ∨ (v3 = 0 ∧ ∃ pf, CF B L h N pf ∧ SmF B L o od p lv pf))) (fun _ v4 _ => 400 - ix v4) ?_ fuel r2 0 M1 ⟨0, by omega, rfl, ?_⟩ (by unfold fuel; omega)
  · rintro v3 v4 N rec ⟨i, hi, rfl, g⟩ hr
    refine So_jn0C (Gp B L h o M K c (19 - 2 * od) (SmS B L o od p lv (19 - 2 * od)) (SmF B L o od p lv) (v3, N)) (fun hC => So_gd ?_ (So.ok hC)) (fun j8 hj8 => ?_)
    · rcases hC.2 with ⟨a, _⟩ | ⟨a, _⟩ <;> (simp only [] at a; rw [a]; rfl)
    obtain ⟨g1, ⟨a, p', lv', X, f, b1, b2, b3, b4', b6, b5⟩ | ⟨a, pf, b1, b2⟩⟩ := g
    · have a : v3 = 1 := a
      subst a
      have b4 : i ≤ tkS B L p' := by have := b1.2.2.2.2.2.2.1; rw [List.length_append] at this; omega
      have exit : (∀ op, ¬ OpG B L p' op) → So j8 (Gp B L h o M K c (19 - 2 * od) (SmS B L o od p lv (19 - 2 * od)) (SmF B L o od p lv)) := fun hx => hj8 ⟨g1, Or.inl ⟨rfl, p', lv', X, f, b1, b2, b3, hx, b5⟩⟩
      by_cases c400 : 400 ≤ i
      · rw [if_pos (show (400 : Int32) ≤ Int32.ofNat i from (nn_le (a := 400) (by omega) (by omega)).mpr c400)]
        exact exit (fun op hop => absurd (K0lt hL b4 (OpG_k hop)) (by omega))
      rw [if_neg (show ¬ (400 : Int32) ≤ Int32.ofNat i from nle (n := 400) (by omega) (by decide)), if_neg (by decide)]
      obtain ⟨v43, e43, s43⟩ := isSign_c (c := 43) b1.1 b1.2.2.1 (by decide)
      obtain ⟨v45, e45, s45⟩ := isSign_c (c := 45) b1.1 b1.2.2.1 (by decide)
      rw [show (43 : Int32) = Int32.ofNat 43 from rfl, show (45 : Int32) = Int32.ofNat 45 from rfl, e43]
      refine So.bindE rfl (So_jn0C (∃ op, OpG B L p' op ∧ (op = 20 ∨ op = 21)) (fun hop => So.bindE rfl ?_) (fun j12 hj12 => ?_))
      · obtain ⟨op, hop, hop2⟩ := hop
        have hk := OpG_k hop
        refine So_jn1R (fun v => v = Int32.ofNat (op - 18)) (fun v15 hv15 => ?_) (fun j16 hj16 => ?_)
        · subst hv15
          refine So_bdM (adv_c1 b1 hk) (fun r N1 hr1 => ?_)
          obtain ⟨q1, q2, q3, q4⟩ := hr1
          have q3 : mI N1 (h + 2) = mI N (h + 2) := q3
          have q4 : CS B L h o N1 (tkE B L p') lv' (K ++ X) (c + 1) := q4
          have hm := tkS_lt B hk
          refine So_bdM (readTerm_c q4 ho hod hrS) (fun r' N' hr' => ?_)
          obtain ⟨t1, ⟨t2, p2, lv2, Y, g', t3, t4, t5, t7, t6⟩ | ⟨t2, pf, t3, t4⟩⟩ := hr'
          · have t2 : r' = 1 := t2
            subst t2
            refine So_bdM (put_c (st := op - 18) (w := 0) t3) (fun r3 N3 hr3 => So_nm ?_)
            obtain ⟨w1, w2, w3, w4⟩ := hr3
            have w3 : mI N3 (h + 2) 4 = mI N' (h + 2) 4 := w3
            have w4 : CS B L h o N3 p2 lv2 (K ++ X ++ Y ++ [(op - 18, 0)]) c := w4
            rw [s1]
            refine hr _ _ _ ⟨i + 1, by omega, rfl, ((g1.tr q2).tr t1).tr w2, Or.inl ⟨rfl, p2, lv2, X ++ Y ++ [(op - 18, 0)], dBin (op - 18) f g', ?_, ?_, ⟨fun z => ?_, fun y z => ?_⟩, by simp only [List.length_append, List.length_cons, List.length_nil]; omega, t7, fun u tst => ?_⟩⟩ (by rw [nn_ix (by omega), nn_ix (by omega)]; omega)
            · simpa only [List.append_assoc] using w4
            · have e1 : 19 - 2 * od = (18 - 2 * od) + 1 := by omega
              rw [e1] at b2 ⊢
              refine DC_bin ⟨by omega, by omega⟩ b2 ?_ (Nat.le_refl _)
              rw [List.length_append] at t4; exact t4
            · show mI N3 (h + 2) 4 = 1
              rw [w3]; exact t5.1 (by rw [q3]; exact b3.1 z)
            · have z : mI N3 (h + 2) 4 = 0 := z
              rw [w3] at z
              have i2 := t5.2 y z
              have zN : mI N (h + 2) 4 = 0 := by
                rcases b1.2.2.2.2.2.1.2.2.2 with zz | zz
                · exact zz
                · have := t5.1 (by rw [q3]; exact zz)
                  have this : mI N' (h + 2) 4 = 1 := this
                  rw [z] at this; exact absurd this (by decide)
              exact Ind_bin (b3.2 y zN) i2
            · have e1 : 19 - 2 * od = (18 - 2 * od) + 1 := by omega
              rw [e1] at b5 ⊢
              exact sum_step (b5 u tst) hop hop2 (t6 u tst) (Nat.le_refl _)
          · have t2 : r' = 0 := t2
            subst t2
            refine So_bdM (put_f t3) (fun r3 N3 hr3 => So_nm ?_)
            rw [s1]
            exact hr _ _ _ ⟨i + 1, by omega, rfl, ((g1.tr q2).tr t1).tr hr3.1, Or.inr ⟨rfl, pf, hr3.2, fun u tst => sum_fail (b5 u tst) hop hop2 (t4 u tst)⟩⟩ (by rw [nn_ix (by omega), nn_ix (by omega)]; omega)
        · rcases s43 with ⟨rfl, g43⟩ | ⟨rfl, g43⟩
          · rw [if_neg (by decide)]
            have : op = 20 := OpG_inj hop (Or.inl ⟨g43, rfl⟩)
            exact hj16 _ (by rw [this]; rfl)
          rw [if_pos rfl]
          have : op = 21 := by
            rcases hop2 with e | e
            · subst e
              rcases hop with ⟨z, _⟩ | ⟨_, e⟩ | ⟨_, e⟩ | ⟨_, e⟩ | ⟨_, e⟩
              · exact absurd z g43
              all_goals omega
            · exact e
          exact hj16 _ (by rw [this]; rfl)
      · rcases s43 with ⟨rfl, g43⟩ | ⟨rfl, g43⟩
        · rw [if_pos (by decide)]
          exact hj12 ⟨20, Or.inl ⟨g43, rfl⟩, Or.inl rfl⟩
        rw [if_neg (by decide), e45]
        refine So.bindE rfl ?_
        rcases s45 with ⟨rfl, g45⟩ | ⟨rfl, g45⟩
        · rw [if_neg (by decide)]
          exact hj12 ⟨21, Or.inr (Or.inl ⟨g45, rfl⟩), Or.inr rfl⟩
        rw [if_pos rfl]
        refine exit (fun op hop => ?_)
        have hz := b6 op hop
        rcases hz with e | e
        · subst e
          rcases hop with ⟨z, _⟩ | ⟨_, e⟩ | ⟨_, e⟩ | ⟨_, e⟩ | ⟨_, e⟩
          · exact g43 z
          all_goals omega
        · subst e
          rcases hop with ⟨_, e⟩ | ⟨z, _⟩ | ⟨_, e⟩ | ⟨_, e⟩ | ⟨_, e⟩
          · omega
          · exact g45 z
          all_goals omega
    · have a : v3 = 0 := a
      subst a
      have ok := hj8 ⟨g1, Or.inr ⟨rfl, pf, b1, b2⟩⟩
      exact So.ite (fun _ => ok) (fun _ => by rw [if_pos rfl]; exact ok)
  · obtain ⟨t1, ⟨t2, p2, lv2, Y, g', t3, t4, t5, t7, t6⟩ | ⟨t2, pf, t3, t4⟩⟩ := hr
    · exact ⟨t1, Or.inl ⟨t2, p2, lv2, Y, g', t3, t4.up (by omega), t5, by omega, t7, fun u tst => (sum_one (t6 u tst)).up (by omega)⟩⟩
    · exact ⟨t1, Or.inr ⟨t2, pf, t3, fun u tst => sum_f1 (t4 u tst)⟩⟩
