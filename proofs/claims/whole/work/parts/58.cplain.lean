/-! ===== the class reads tests ===== -/
theorem rdS {B : Nat → Nat} {L h o : Nat} (ho : o = 0 ∨ o = 1) : ∀ (n od : Nat), od ≤ 8 → 9 ≤ n + od → RdS B L h o od (GX5_readSum n)
  | 0, od, h1, h2 => by omega
  | n + 1, od, h1, h2 => fun M p lv K c s => readSum_c s ho h1 (fun h8 => rdS ho n (od + 1) (by omega) (by omega))
theorem isSign_any (h : Nat) (c : Int32) (M : Mem) : ∃ v : Int32, FX5_isSign h c M = some v ∧ (v = 0 ∨ v = 1) := by
  unfold FX5_isSign jn1 jn0; simp only []
  split
  · exact ⟨0, rfl, Or.inl rfl⟩
  · split
    · exact ⟨0, rfl, Or.inl rfl⟩
    · exact ⟨1, rfl, Or.inr rfl⟩
def PlS (B : Nat → Nat) (L o od p lv d : Nat) (p' lv' : Nat) (f : Den) : Prop := TB f ∧ ∀ u, SPlain B L u o p lv od p' lv' d f
def PlF (B : Nat → Nat) (L o od p lv : Nat) (pf : Nat) : Prop := ∀ u, FPlain B L u o p lv od pf
def BoS (B : Nat → Nat) (L o od p lv d : Nat) (p' lv' : Nat) (f : Den) : Prop := TB f ∧ ¬ isW B L p' 27 ∧ ∀ u, SBoth B L u o p lv od p' lv' d f
def BoF (B : Nat → Nat) (L o od p lv : Nat) (pf : Nat) : Prop := ∀ u, FBoth B L u o p lv od pf
def TsS (B : Nat → Nat) (L o od p lv d : Nat) (p' lv' : Nat) (f : Den) : Prop := TB f ∧ ¬ isW B L p' 26 ∧ ¬ isW B L p' 27 ∧ ∀ u, STest B L u o p lv od p' lv' d f
def TsF (B : Nat → Nat) (L o od p lv : Nat) (pf : Nat) : Prop := ∀ u, FTest B L u o p lv od pf
def RdT (B : Nat → Nat) (L h o od : Nat) (rT : Nat → Int32 → Mem → Option (Int32 × Mem)) : Prop := ∀ M p lv K c, CS B L h o M p lv K c → So (rT h (Int32.ofNat od) M) (Gp B L h o M K c (20 - 2 * od) (TsS B L o od p lv (20 - 2 * od)) (TsF B L o od p lv))
theorem SPlain.up {B : Nat → Nat} {L u o p lv od p' lv' d d' : Nat} {f : Den} (h : SPlain B L u o p lv od p' lv' d f) (hd : d ≤ d') : SPlain B L u o p lv od p' lv' d' f := fun N C P Q hc hl hi hk => h N C P Q hc hl hi (fun N' Y R Y' pf c hR hw hD => hk N' Y R Y' pf c hR hw (hD.up hd))
theorem readPlain_c {B : Nat → Nat} {L h o p lv c od : Nat} {M : Mem} {K : List (Nat × Nat)} {rT : Nat → Int32 → Mem → Option (Int32 × Mem)} (s : CS B L h o M p lv K c) (ho : o = 0 ∨ o = 1) (hod : od ≤ 8) (hrT : od < 8 → RdT B L h o (od + 1) rT) : So (FX5_readPlain h (Int32.ofNat od) rT M) (Gp B L h o M K c (20 - 2 * od) (PlS B L o od p lv (20 - 2 * od)) (PlF B L o od p lv)) := by
  have hL := s.1.1
  unfold FX5_readPlain
  refine So_wl3 (fun v1 v2 N => ∃ (i q : Nat) (t : Bool), v1 = (if t = true then 1 else 0) ∧ v2 = Int32.ofNat i ∧ CE h M N ∧ mI N (h + 2) = mI M (h + 2) ∧ CS B L h o N q lv K (c + i) ∧ (t = true → 1 ≤ i) ∧ (∀ u p' lv' d f, SPlain B L u o q lv od p' lv' d f → SPlain B L u o p lv od p' lv' d (if t = true then dNot f else f)) ∧ (∀ u pf, FPlain B L u o q lv od pf → FPlain B L u o p lv od pf)) (fun _ v2 _ => 401 - ix v2) ?_ fuel 0 0 M ⟨0, p, false, rfl, rfl, CE.rf, rfl, s, (fun z => absurd z (by decide)), (fun u p' lv' d f z => z), fun u pf z => z⟩ (by unfold fuel; omega)
  rintro v1 v2 N rec ⟨i, q, t, rfl, rfl, E1, g1, s1', ht, hS, hF⟩ hr
  have hsq := tkS_le B s1'.2.1
  have hKi := s1'.2.2.2.2.2.2.1
  refine So_jn1R (fun N' => N' = N ∧ ¬ isW B L q 28) (fun N6 hN6 => ?_) (fun j7 hj7 => ?_)
  · obtain ⟨rfl, n28⟩ := hN6
    obtain ⟨v40, e40, s40⟩ := isSign_c (c := 40) s1'.1 s1'.2.2.1 (by decide)
    rw [show (40 : Int32) = Int32.ofNat 40 from rfl, e40]
    refine So.bindE rfl (So_jn2R (fun v N2 => Gp B L h o N6 K (c + i) (20 - 2 * od) (PlS B L o od q lv (20 - 2 * od)) (PlF B L o od q lv) (v, N2)) (fun v10 M11 hg => ?_) (fun j12 hj12 => ?_))
    · -- the end
      obtain ⟨e1, hg⟩ := hg
      refine So_jn1R (fun M14 => Gp B L h o M K c (20 - 2 * od) (PlS B L o od p lv (20 - 2 * od)) (PlF B L o od p lv) (v10, M14)) (fun M14 hM14 => So_gd ?_ (So.ok hM14)) (fun j15 hj15 => ?_)
      · rcases hM14.2 with ⟨a, _⟩ | ⟨a, _⟩ <;> (simp only [] at a; rw [a]; rfl)
      · cases t with
        | false =>
          rw [if_pos (show (if false = true then (1 : Int32) else 0) = 0 from rfl)]
          refine hj15 _ ⟨E1.tr e1, ?_⟩
          rcases hg with ⟨a, p', lv', X, f, b1, b2, b3, b4, b5⟩ | ⟨a, pf, b1, b2⟩
          · exact Or.inl ⟨a, p', lv', X, f, b1.less (by omega), b2, ⟨fun z => b3.1 (by rw [g1]; exact z), b3.2⟩, b4, fun u => hS u _ _ _ _ (b5 u)⟩
          · exact Or.inr ⟨a, pf, b1, fun u => hF u _ (b2 u)⟩
        | true =>
          rw [if_neg (by decide)]
          have hi1 := ht rfl
          rcases hg with ⟨a, p', lv', X, f, b1, b2, b3, b4, b5⟩ | ⟨a, pf, b1, b2⟩
          · refine So_bdM (put_c (c := c) (st := 10) (w := 0) (b1.less (by omega))) (fun r3 N3 hr3 => ?_)
            obtain ⟨w1, w2, w3, w4⟩ := hr3
            have w3 : mI N3 (h + 2) 4 = mI M11 (h + 2) 4 := w3
            refine hj15 _ ⟨(E1.tr e1).tr w2, Or.inl ⟨a, p', lv', X ++ [(10, 0)], dNot f, by rw [← List.append_assoc]; exact w4, DC_not b2 b4 (by omega), ⟨fun z => ?_, fun y z => ?_⟩, TB_not b4, fun u => hS u _ _ _ _ (b5 u)⟩⟩
            · show mI N3 (h + 2) 4 = 1
              rw [w3]; exact b3.1 (by rw [g1]; exact z)
            · have z : mI N3 (h + 2) 4 = 0 := z
              rw [w3] at z
              exact Ind_not (b3.2 y z)
          · refine So_bdM (put_f b1) (fun r3 N3 hr3 => hj15 _ ⟨(E1.tr e1).tr hr3.1, Or.inr ⟨a, pf, hr3.2, fun u => hF u _ (b2 u)⟩⟩)
    · rcases s40 with ⟨rfl, g40⟩ | ⟨rfl, g40⟩
      · -- a bracket
        rw [if_neg (by decide)]
        refine So_jn2R (fun v N2 => Gp B L h o N6 K (c + i) (20 - 2 * od) (PlS B L o od q lv (20 - 2 * od)) (PlF B L o od q lv) (v, N2)) (fun v45 M46 hg => hj12 _ _ hg) (fun j47 hj47 => So_jn1R (fun N2 => Gp B L h o N6 K (c + i) (20 - 2 * od) (PlS B L o od q lv (20 - 2 * od)) (PlF B L o od q lv) (0, N2)) (fun N2 hN2 => hj47 _ _ hN2) (fun j50 hj50 => ?_))
        by_cases c8 : od < 8
        · rw [if_neg (show ¬ (8 : Int32) ≤ Int32.ofNat od from nle (n := 8) c8 (by decide))]
          refine So_bdM (adv_c1 s1' (RS.tkne g40)) (fun r N1 hr1 => ?_)
          obtain ⟨r1, r2, r3, r4⟩ := hr1
          have r1' : r = 1 := r1
          have r3 : mI N1 (h + 2) = mI N6 (h + 2) := r3
          rw [r1', if_neg (by decide), s1]
          refine So_bdM (hrT c8 N1 (tkE B L q) lv K (c + i + 1) r4) (fun r' N' hr' => ?_)
          obtain ⟨g1', g2⟩ := hr'
          rcases g2 with ⟨a, p', lv', X, f, b1, b2, b3, b4, b6, b7, b5⟩ | ⟨a, pf, b1, b2⟩
          · have a' : r' = 1 := a
            rw [a', if_neg (by decide)]
            refine So_bdM (skipSign_c (j := 41) (b1.less (c' := c + i) (by omega)) (by decide)) (fun r3' N3 hr3 => ?_)
            rcases hr3 with ⟨q1, q2, q3, q4, q5⟩ | ⟨q1, q2⟩
            · have q2' : r3' = 1 := q2
              have q4 : mI N3 (h + 2) = mI N' (h + 2) := q4
              rw [q2', if_neg (by decide)]
              refine hj47 _ _ ⟨(r2.tr g1').tr q3, Or.inl ⟨rfl, tkE B L p', lv', X, f, q5.less (by omega), b2.up (by omega), ⟨fun z => ?_, fun y z => ?_⟩, b4, fun u => (plain_br g40 c8 (b5 u) b6 b7 q1).up (by omega)⟩⟩
              · show mI N3 (h + 2) 4 = 1
                rw [q4]; exact b3.1 (by rw [r3]; exact z)
              · have z : mI N3 (h + 2) 4 = 0 := z
                rw [q4] at z; exact b3.2 y z
            · cases q2
              rw [if_pos rfl]
              exact hj50 _ ⟨r2.tr g1', Or.inr ⟨rfl, tkS B L p', b1.cf, fun u => plain_brB g40 c8 (b5 u) b6 b7 q1⟩⟩
          · have a' : r' = 0 := a
            rw [a', if_pos rfl]
            exact hj50 _ ⟨r2.tr g1', Or.inr ⟨rfl, pf, b1, fun u => plain_brF g40 c8 (b2 u)⟩⟩
        · have : od = 8 := by omega
          subst this
          rw [if_pos (by decide)]
          exact hj50 _ ⟨CE.rf, Or.inr ⟨rfl, tkS B L q, s1'.cf, fun u => plain_br8 g40 rfl⟩⟩
      · -- a comparison
        rw [if_pos rfl]
        have hrd : RdS B L h o od (GX5_readSum 10) := rdS ho 10 od hod (by omega)
        unfold FX5_readSumR
        refine So_bdM (hrd N6 q lv K (c + i) s1') (fun r22 M21 hr22 => ?_)
        obtain ⟨e21, ⟨a, p1, lv1, X, f, b1, b2, b3, b4, b5⟩ | ⟨a, pf, b1, b2⟩⟩ := hr22
        · have a : r22 = 1 := a
          subst a
          have b1 : CS B L h o M21 p1 lv1 (K ++ X) (c + i) := b1
          obtain ⟨v60, e60, s60⟩ := isSign_c (c := 60) b1.1 b1.2.2.1 (by decide)
          obtain ⟨v62, e62, s62⟩ := isSign_c (c := 62) b1.1 b1.2.2.1 (by decide)
          obtain ⟨v61, e61, s61⟩ := isSign_c (c := 61) b1.1 b1.2.2.1 (by decide)
          rw [show (60 : Int32) = Int32.ofNat 60 from rfl, show (62 : Int32) = Int32.ofNat 62 from rfl, show (61 : Int32) = Int32.ofNat 61 from rfl, e60]
          refine So.bindE rfl (So_jn1R (fun v => ∃ op, v = Int32.ofNat (op - 18) ∧ 25 ≤ op ∧ op ≤ 27 ∧ (op ≠ 27 → CmG B L p1 op) ∧ (op = 27 → ¬ isG B L p1 60 ∧ ¬ isG B L p1 62)) (fun v24 hv24 => ?_) (fun j25 hj25 => ?_))
          · obtain ⟨op, rfl, o1, o2, o3, o4⟩ := hv24
            refine So_jn2R (fun v N2 => (v = 1 ∧ CE h N6 N2 ∧ CmG B L p1 op ∧ ∃ p2 lv2 Y g', CS B L h o N2 p2 lv2 (K ++ X ++ Y) (c + i + 1) ∧ DC Y (K ++ X).length (19 - 2 * od) g' ∧ Chg h o M21 N2 g' ∧ SmS B L o od (tkE B L p1) lv1 (19 - 2 * od) p2 lv2 g') ∨ (v = 0 ∧ CE h N6 N2 ∧ ∃ pf, CF B L h N2 pf ∧ PlF B L o od q lv pf)) (fun v27 M28 hv27 => ?_) (fun j29 hj29 => So_jn1R (fun N2 => CE h N6 N2 ∧ ∃ pf, CF B L h N2 pf ∧ PlF B L o od q lv pf) (fun N2 hN2 => hj29 _ _ (Or.inr ⟨rfl, hN2⟩)) (fun j35 hj35 => ?_))
            · rcases hv27 with ⟨rfl, e28, hg, p2, lv2, Y, g', t3, t4, t5, t7, t6⟩ | ⟨rfl, e28, pf, t3, t4⟩
              · refine So_bdM (put_c (st := op - 18) (w := 0) t3) (fun r3 N3 hr3 => ?_)
                obtain ⟨w1, w2, w3, w4⟩ := hr3
                have w3 : mI N3 (h + 2) 4 = mI M28 (h + 2) 4 := w3
                refine hj12 _ _ ⟨e28.tr w2, Or.inl ⟨rfl, p2, lv2, X ++ Y ++ [(op - 18, 0)], dBin (op - 18) f g', ?_, ?_, ⟨fun z => ?_, fun y z => ?_⟩, TB_cmp ⟨by omega, by omega⟩ f g', fun u => ?_⟩⟩
                · simpa only [List.append_assoc] using w4
                · have e1 : 20 - 2 * od = (19 - 2 * od) + 1 := by omega
                  rw [e1]
                  refine DC_bin ⟨by omega, by omega⟩ b2 ?_ (by omega)
                  rw [List.length_append] at t4; exact t4
                · show mI N3 (h + 2) 4 = 1
                  rw [w3]; exact t5.1 (b3.1 z)
                · have z : mI N3 (h + 2) 4 = 0 := z
                  rw [w3] at z
                  have zN : mI M21 (h + 2) 4 = 0 := by
                    rcases b1.2.2.2.2.2.1.2.2.2 with zz | zz
                    · exact zz
                    · have := t5.1 zz
                      rw [z] at this; exact absurd this (by decide)
                  exact Ind_bin (b3.2 y zN) (t5.2 y z)
                · have e1 : 20 - 2 * od = (19 - 2 * od) + 1 := by omega
                  rw [e1]
                  exact plain_cmp n28 g40 (b5 u 1) b4 hg (t6 u 1) t7 (by omega)
              · exact So_bdM (put_f t3) (fun r3 N3 hr3 => hj12 _ _ ⟨e28.tr hr3.1, Or.inr ⟨rfl, pf, hr3.2, t4⟩⟩)
            · rw [if_neg (by decide)]
              refine So_jn0C (CmG B L p1 op) (fun hg => ?_) (fun j37 hj37 => ?_)
              · refine So_bdM (adv_c1 b1 (CmG_k hg).1) (fun r N1 hr1 => ?_)
                obtain ⟨q1, q2, q3, q4⟩ := hr1
                have q1 : r = 1 := q1
                have q3 : mI N1 (h + 2) = mI M21 (h + 2) := q3
                rw [q1, if_neg (by decide)]
                refine So_bdM (hrd N1 (tkE B L p1) lv1 (K ++ X) (c + i + 1) q4) (fun r' N' hr' => ?_)
                obtain ⟨t1, ⟨t2, p2, lv2, Y, g', t3, t4, t5, t7, t6⟩ | ⟨t2, pf, t3, t4⟩⟩ := hr'
                · have t2 : r' = 1 := t2
                  rw [t2, if_neg (by decide)]
                  exact hj29 _ _ (Or.inl ⟨rfl, (e21.tr q2).tr t1, hg, p2, lv2, Y, g', t3, t4, ⟨fun z => t5.1 (by rw [q3]; exact z), t5.2⟩, t7, t6⟩)
                · have t2 : r' = 0 := t2
                  rw [t2, if_pos rfl]
                  exact hj35 _ ⟨(e21.tr q2).tr t1, pf, t3, fun u => plain_cmpF3 n28 g40 (b5 u 1) b4 hg (t4 u 1)⟩
              · have e9 : (Int32.ofNat (op - 18) = 9) ↔ op - 18 = 9 := nn_eq (b := 9) (by omega) (by omega)
                by_cases c27 : op = 27
                · subst c27
                  rw [if_neg (show ¬ ¬ Int32.ofNat (27 - 18) = 9 by decide), e61]
                  refine So.bindE rfl ?_
                  rcases s61 with ⟨rfl, g61⟩ | ⟨rfl, g61⟩
                  · rw [if_neg (by decide)]
                    exact hj37 (Or.inr (Or.inr ⟨g61, rfl⟩))
                  · rw [if_pos rfl]
                    obtain ⟨n1, n2⟩ := o4 rfl
                    refine hj35 _ ⟨e21, tkS B L p1, b1.cf, fun u => plain_cmpF2 n28 g40 (b5 u 1) b4 (fun op z => ?_)⟩
                    rcases z with ⟨z, _⟩ | ⟨z, _⟩ | ⟨z, _⟩
                    · exact n1 z
                    · exact n2 z
                    · exact g61 z
                · rw [if_pos (fun z => by have := e9.mp z; omega)]
                  exact hj37 (o3 c27)
          · rcases s60 with ⟨rfl, g60⟩ | ⟨rfl, g60⟩
            · rw [if_neg (by decide)]
              exact hj25 _ ⟨25, rfl, by omega, by omega, fun _ => Or.inl ⟨g60, rfl⟩, fun z => by omega⟩
            · rw [if_pos rfl, e62]
              refine So.bindE rfl ?_
              rcases s62 with ⟨rfl, g62⟩ | ⟨rfl, g62⟩
              · rw [if_neg (by decide)]
                exact hj25 _ ⟨26, rfl, by omega, by omega, fun _ => Or.inr (Or.inl ⟨g62, rfl⟩), fun z => by omega⟩
              · rw [if_pos rfl]
                exact hj25 _ ⟨27, rfl, by omega, by omega, fun z => absurd rfl z, fun _ => ⟨g60, g62⟩⟩
        · have a : r22 = 0 := a
          subst a
          obtain ⟨v60, e60, s60⟩ := isSign_any h 60 M21
          obtain ⟨v62, e62, s62⟩ := isSign_any h 62 M21
          rw [e60]
          refine So.bindE rfl (So_jn1R (fun _ => True) (fun v24 _ => ?_) (fun j25 hj25 => ?_))
          · refine So_jn2R (fun v N2 => v = 0 ∧ N2 = M21) (fun v27 M28 hv27 => ?_) (fun j29 hj29 => So_jn1R (fun N2 => N2 = M21) (fun N2 hN2 => hj29 _ _ ⟨rfl, hN2⟩) (fun j35 hj35 => ?_))
            · obtain ⟨rfl, rfl⟩ := hv27
              exact So_bdM (put_f b1) (fun r3 N3 hr3 => hj12 _ _ ⟨e21.tr hr3.1, Or.inr ⟨rfl, pf, hr3.2, fun u => plain_cmpF1 n28 g40 (b2 u 1)⟩⟩)
            · rw [if_pos rfl]; exact hj35 _ rfl
          · refine So.ite (fun _ => ?_) (fun _ => hj25 _ trivial)
            rw [e62]
            exact So.bindE rfl (So.ite (fun _ => hj25 _ trivial) (fun _ => hj25 _ trivial))
  · by_cases c400 : 400 ≤ i
    · rw [if_pos (show (400 : Int32) ≤ Int32.ofNat i from (nn_le (a := 400) (by omega) (by omega)).mpr c400)]
      refine hj7 _ ⟨rfl, fun z => ?_⟩
      have := tk3_lt (B := B) (L := L) (p := q) (by rw [z.1]; decide)
      omega
    · rw [if_neg (show ¬ (400 : Int32) ≤ Int32.ofNat i from nle (n := 400) (by omega) (by decide))]
      refine So_bdM (skipWord_c (j := 28) s1' (by decide)) (fun r N1 hr1 => ?_)
      rcases hr1 with ⟨q1, q2, q3, q4, q5⟩ | ⟨q1, q2⟩
      · have q2 : r = 1 := q2
        have q4 : mI N1 (h + 2) = mI N (h + 2) := q4
        rw [q2, if_neg (by decide)]
        refine So_jn1R (fun v => v = if (!t) = true then 1 else 0) (fun v60 hv60 => So_nm ?_) (fun j61 hj61 => ?_)
        · rw [s1]
          refine hr _ _ _ ⟨i + 1, tkE B L q, !t, hv60, rfl, E1.tr q3, by rw [q4]; exact g1, q5, fun _ => by omega, fun u p' lv' d f hp => ?_, fun u pf hp => hF u pf (plain_notF q1 hp)⟩ (by rw [nn_ix (by omega), nn_ix (by omega)]; omega)
          have := hS u p' lv' d (dNot f) (plain_not q1 hp)
          cases t with
          | false => exact this
          | true => simpa [dNot2] using this
        · cases t with
          | false => rw [if_neg (by decide)]; exact hj61 _ rfl
          | true => rw [if_pos (by decide)]; exact hj61 _ rfl
      · cases q2
        rw [if_pos rfl]
        exact hj7 _ ⟨rfl, q1⟩
