theorem ordWord_c {B : Nat → Nat} {L h o p lv c od d : Nat} {M : Mem} {K : List (Nat × Nat)} (s : CS B L h o M p (lv + 1) K c) (hlv : lv < 50) (ho : o = 1) (hk : tkK B L p = 1) (hd : 1 ≤ d) : So (FX5_readOrdersWord h M) (Gp B L h o M K c d (PtS B L o od p lv d) (PtF B L o od p lv)) := by
  have hL := s.1.1
  have hkl : K.length < 400 := by have := s.2.2.2.2.2.2.1; have := tk3_lt (B := B) (L := L) (p := p) (by omega); omega
  have hv9 : mI M h 9 = tkV B L p := s.2.2.1.2.2.2 (by omega)
  have ng : ¬ isG B L p 91 := fun z => by have := z.1; omega
  have bad : (∀ j, j < 29 → 16 ≤ j → j ≤ 22 → ¬ isW B L p j) → So (some ((0 : Int32), M)) (Gp B L h o M K c d (PtS B L o od p lv d) (PtF B L o od p lv)) := fun hn =>
    So.ok ⟨CE.rf, Or.inr ⟨rfl, tkS B L p, s.cf, fun u tst => part_leafB (Or.inl ⟨rfl, Or.inr ⟨fun z => by omega, fun z => by omega, fun _ k hk' z => hn _ (by omega) (by omega) (by omega) z⟩⟩) ng⟩⟩
  unfold FX5_readOrdersWord
  refine So_jn0 ?_
  rw [hv9]
  rcases wv_cases hk with ⟨j, hj, hw, hv⟩ | ⟨hv, hno⟩
  · rw [hv]
    have e1 : (Int32.ofNat j < 16) ↔ j < 16 := nn_lt (b := 16) (by omega) (by omega)
    have e2 : (Int32.ofNat j ≤ 22) ↔ j ≤ 22 := nn_le (b := 22) (by omega) (by omega)
    have e21 : (Int32.ofNat j = 21) ↔ j = 21 := nn_eq (b := 21) (by omega) (by omega)
    have e22 : (Int32.ofNat j = 22) ↔ j = 22 := nn_eq (b := 22) (by omega) (by omega)
    by_cases c1 : j < 16
    · rw [if_pos (e1.mpr c1)]
      exact bad (fun i hi h1 h2 z => by have := isW_inj hw z hj hi; omega)
    rw [if_neg (fun z => c1 (e1.mp z))]
    by_cases c2 : j ≤ 22
    · rw [if_pos (e2.mpr c2)]
      refine So_nm (So_jn2R (fun v N => ∃ p1 w K1c op x, CE h M N ∧ mI N (h + 2) 4 = mI M (h + 2) 4 ∧ v = Int32.ofNat w ∧ CS B L h o N p1 (lv + 1) K K1c ∧ c ≤ K1c ∧ tkK B L p1 ≠ 0 ∧ Leaf B L o p op x 1 w (tkE B L p1)) (fun v4 N4 hv4 => ?_) (fun j6 hj6 => So_jn0C (j = 21 ∨ j = 22) (fun hjj => ?_) (fun j14 hj14 => ?_)))
      · obtain ⟨p1, w, K1c, op, x, q1, q2, rfl, q4, q5, q6, q7⟩ := hv4
        have hkl1 : K.length < 400 := hkl
        refine So_bdM (put_adv (st := 1) (w := w) (q4.less q5) q6 hkl1) (fun r N hr => ?_)
        obtain ⟨t1, t2, t3⟩ := hr
        refine So_bdM t3 (fun r' N' hr' => ?_)
        obtain ⟨t1, t2, t3, t4⟩ := hr'
        have t1' : r' = 1 := t1
        rw [t1']
        refine So_gd rfl (So.ok ⟨q1.tr t2, Or.inl ⟨rfl, tkE B L p1, lv + 1, [(1, w)], dLeaf 1 w, t4, (DC_leaf (Or.inr rfl)).up hd, ⟨fun z => ?_, fun z => by omega⟩, fun u tst => (part_leaf q7 hlv).up hd⟩⟩)
        show mI N' (h + 2) 4 = 1
        rw [t3, q2]; exact z
      · have hk5 : ∃ k, (k = 5 ∨ k = 6) ∧ j = 16 + k := ⟨j - 16, by omega, by omega⟩
        obtain ⟨k, hk5, rfl⟩ := hk5
        refine So_jn1R (fun v => v = Int32.ofNat (if k = 5 then 5 else 7)) (fun v16 hv16 => So_jn1R (fun v => v = Int32.ofNat (if k = 5 then 2 else 12)) (fun v19 hv19 => ?_) (fun j20 hj20 => ?_)) (fun j17 hj17 => ?_)
        · subst hv16 hv19
          refine So_bdM (adv_c1 s (by omega)) (fun r N hr => So_jn0C (¬ (tkK B L (tkE B L p) = 2 ∧ tkN B L (tkE B L p) ≤ (if k = 5 then 1 else 11))) (fun hnn => ?_) (fun j24 hj24 => ?_))
          · exact So.ok ⟨hr.2.1, Or.inr ⟨rfl, tkS B L (tkE B L p), hr.2.2.2.cf, fun u tst => part_leafB (Or.inr ⟨ho, hlv, k, hk5, hw, hnn, rfl⟩) ng⟩⟩
          · obtain ⟨r1, r2, r3, r4⟩ := hr
            have r4 : CS B L h o N (tkE B L p) (lv + 1) K (c + 1) := r4
            have r3 : mI N (h + 2) = mI M (h + 2) := r3
            have hk4 : tkK B L (tkE B L p) ≤ 3 := by unfold tkK; split; omega; split; omega; split <;> omega
            rw [r4.2.2.1.2.2.1]
            by_cases k2 : tkK B L (tkE B L p) = 2
            · rw [if_neg (fun z => z (by rw [k2]; rfl)), r4.2.2.1.2.2.2 (by omega)]
              have hvv : tkV B L (tkE B L p) = Int32.ofNat (min 1001 (tkN B L (tkE B L p))) := by unfold tkV; rw [if_neg (by omega), if_pos k2]
              rw [hvv]
              have hlim : (Int32.ofNat (min 1001 (tkN B L (tkE B L p))) < Int32.ofNat (if k = 5 then 2 else 12)) ↔ min 1001 (tkN B L (tkE B L p)) < (if k = 5 then 2 else 12) := nn_lt (by omega) (by split <;> omega)
              by_cases cl : min 1001 (tkN B L (tkE B L p)) < (if k = 5 then 2 else 12)
              · rw [if_pos (hlim.mpr cl)]
                refine So_nm ?_
                rw [nn_add]
                have hle : tkN B L (tkE B L p) ≤ (if k = 5 then 1 else 11) := by
                  rcases hk5 with rfl | rfl <;> simp at cl ⊢ <;> omega
                have hmin : min 1001 (tkN B L (tkE B L p)) = tkN B L (tkE B L p) := by
                  rcases hk5 with rfl | rfl <;> simp at hle <;> omega
                rw [hmin]
                exact hj6 _ _ ⟨tkE B L p, _, c + 1, k + 1, tkN B L (tkE B L p), r2, by rw [r3], rfl, r4, by omega, by omega, Or.inr (Or.inr (Or.inr ⟨ho, k, hk5, hw, k2, hle, rfl, rfl, rfl, rfl, rfl⟩))⟩
              · rw [if_neg (fun z => cl (hlim.mp z))]
                refine hj24 (fun z => cl ?_)
                have := z.2
                rcases hk5 with rfl | rfl <;> simp at this ⊢ <;> omega
            · rw [if_pos (show ¬ Int32.ofNat (tkK B L (tkE B L p)) = 2 from fun z => k2 ((nn_eq (b := 2) (by omega) (by omega)).mp z))]
              exact hj24 (fun z => k2 z.1)
        · rcases hk5 with rfl | rfl
          · rw [if_neg (by decide)]; exact hj20 _ rfl
          · rw [if_pos (by decide)]; exact hj20 _ rfl
        · rcases hk5 with rfl | rfl
          · rw [if_neg (by decide)]; exact hj17 _ rfl
          · rw [if_pos (by decide)]; exact hj17 _ rfl
      · by_cases c21 : j = 21
        · rw [if_pos (e21.mpr c21)]; exact hj14 (Or.inl c21)
        rw [if_neg (fun z => c21 (e21.mp z))]
        by_cases c22 : j = 22
        · rw [if_neg (fun z => z (e22.mpr c22))]; exact hj14 (Or.inr c22)
        rw [if_pos (fun z => c22 (e22.mp z)), show Int32.ofNat j - 16 = Int32.ofNat (j - 16) from nn_sub (b := 16) (by omega) (by omega)]
        exact hj6 _ _ ⟨p, j - 16, c, j - 16 + 1, 0, CE.rf, rfl, rfl, s, Nat.le_refl _, by omega, Or.inr (Or.inr (Or.inl ⟨ho, j - 16, by omega, by rw [show 16 + (j - 16) = j by omega]; exact hw, rfl, rfl, rfl, rfl, rfl⟩))⟩
    · rw [if_neg (fun z => c2 (e2.mp z))]
      exact bad (fun i hi h1 h2 z => by have := isW_inj hw z hj hi; omega)
  · rw [hv, if_pos (by decide)]
    exact bad (fun i hi _ _ => hno i hi)
def SmS (B : Nat → Nat) (L o od p lv d : Nat) (p' lv' : Nat) (f : Den) : Prop := (∀ op, ¬ OpG B L p' op) ∧ ∀ u tst, SSum B L u o tst p lv od p' lv' d f
def SmF (B : Nat → Nat) (L o od p lv : Nat) (pf : Nat) : Prop := ∀ u tst, FSum B L u o tst p lv od pf
/-- the reader of sums in brackets does what is asked of it -/
def RdS (B : Nat → Nat) (L h o od : Nat) (rS : Nat → Int32 → Mem → Option (Int32 × Mem)) : Prop := ∀ M p lv K c, CS B L h o M p lv K c → So (rS h (Int32.ofNat od) M) (Gp B L h o M K c (19 - 2 * od) (SmS B L o od p lv (19 - 2 * od)) (SmF B L o od p lv))
theorem Gp.ce {B : Nat → Nat} {L h o c d : Nat} {M M' : Mem} {K : List (Nat × Nat)} {S S' : Nat → Nat → Den → Prop} {F F' : Nat → Prop} {r : Int32 × Mem} (g : Gp B L h o M' K c d S F r) (e : CE h M M') (e4 : mI M (h + 2) 4 = 1 → mI M' (h + 2) 4 = 1) (hS : ∀ p lv f, S p lv f → S' p lv f) (hF : ∀ f, F f → F' f) : Gp B L h o M K c d S' F' r := by
  obtain ⟨g1, g2⟩ := g
  refine ⟨e.tr g1, ?_⟩
  rcases g2 with ⟨a, p', lv', X, f, b1, b2, b3, b4⟩ | ⟨a, pf, b1, b2⟩
  · exact Or.inl ⟨a, p', lv', X, f, b1, b2, ⟨fun z => b3.1 (e4 z), b3.2⟩, hS _ _ _ b4⟩
  · exact Or.inr ⟨a, pf, b1, hF _ b2⟩
theorem readPart_c {B : Nat → Nat} {L h o p lv c od : Nat} {M : Mem} {K : List (Nat × Nat)} {rS : Nat → Int32 → Mem → Option (Int32 × Mem)} (s : CS B L h o M p lv K c) (ho : o = 0 ∨ o = 1) (hod : od ≤ 8) (hrS : od < 8 → RdS B L h o (od + 1) rS) : So (FX5_readPart h (Int32.ofNat od) rS M) (Gp B L h o M K c (17 - 2 * od) (PtS B L o od p lv (17 - 2 * od)) (PtF B L o od p lv)) := by
  have hk4 : tkK B L p ≤ 3 := by unfold tkK; split; omega; split; omega; split <;> omega
  have hL := s.1.1
  unfold FX5_readPart
  obtain ⟨v, hv, hv2⟩ := isSign_c (c := 91) s.1 s.2.2.1 (by decide)
  rw [show (91 : Int32) = Int32.ofNat 91 from rfl, hv]
  refine So.bindE rfl ?_
  rcases hv2 with ⟨rfl, g⟩ | ⟨rfl, g⟩
  · -- a bracket
    rw [if_neg (by decide)]
    refine So_jn2R (fun v N => Gp B L h o M K c (17 - 2 * od) (PtS B L o od p lv (17 - 2 * od)) (PtF B L o od p lv) (v, N)) (fun v26 N hN => ?_) (fun j28 hj28 => So_jn1R (fun N => Gp B L h o M K c (17 - 2 * od) (PtS B L o od p lv (17 - 2 * od)) (PtF B L o od p lv) (0, N)) (fun N hN => hj28 _ _ hN) (fun j32 hj32 => ?_))
    · refine So_gd ?_ (So.ok hN)
      rcases hN.2 with ⟨a, _⟩ | ⟨a, _⟩ <;> (simp only [] at a; rw [a]; rfl)
    · by_cases c8 : od < 8
      · rw [if_neg (show ¬ (8 : Int32) ≤ Int32.ofNat od from nle (n := 8) c8 (by decide))]
        refine So_bdM (adv_c1 s (RS.tkne g)) (fun r N hr => ?_)
        obtain ⟨r1, r2, r3, r4⟩ := hr
        have r1' : r = 1 := r1
        have r3 : mI N (h + 2) = mI M (h + 2) := r3
        rw [r1', if_neg (by decide), s1]
        refine So_bdM (hrS c8 N (tkE B L p) lv K (c + 1) r4) (fun r' N' hr' => ?_)
        obtain ⟨g1, g2⟩ := hr'
        rcases g2 with ⟨a, p', lv', X, f, b1, b2, b3, b4, b5⟩ | ⟨a, pf, b1, b2⟩
        · have a' : r' = 1 := a
          rw [a', if_neg (by decide)]
          refine So_bdM (skipSign_c (j := 93) (b1.less (c' := c) (by omega)) (by decide)) (fun r3' N3 hr3 => ?_)
          rcases hr3 with ⟨q1, q2, q3, q4, q5⟩ | ⟨q1, q2⟩
          · have q2' : r3' = 1 := q2
            rw [q2', if_neg (by decide)]
            refine hj28 _ _ ⟨(r2.tr g1).tr q3, Or.inl ⟨rfl, tkE B L p', lv', X, f, q5.less (by omega), ?_, ⟨fun z => ?_, fun y z => ?_⟩, fun u tst => ?_⟩⟩
            · rw [show 17 - 2 * od = 19 - 2 * (od + 1) by omega]; exact b2
            · have q4 : mI N3 (h + 2) = mI N' (h + 2) := q4
              show mI N3 (h + 2) 4 = 1
              rw [q4]; exact b3.1 (by rw [r3]; exact z)
            · have q4 : mI N3 (h + 2) = mI N' (h + 2) := q4
              have z : mI N3 (h + 2) 4 = 0 := z
              rw [q4] at z
              exact b3.2 y z
            · have := part_open g c8 (b5 u tst) b4 q1
              rw [show 17 - 2 * od = 19 - 2 * (od + 1) by omega]; exact this
          · cases q2
            rw [if_pos rfl]
            exact hj32 _ ⟨r2.tr g1, Or.inr ⟨rfl, tkS B L p', b1.cf, fun u tst => part_openB g c8 (b5 u tst) b4 q1⟩⟩
        · have a' : r' = 0 := a
          rw [a', if_pos rfl]
          exact hj32 _ ⟨r2.tr g1, Or.inr ⟨rfl, pf, b1, fun u tst => part_openF g c8 (b2 u tst)⟩⟩
      · have : od = 8 := by omega
        subst this
        rw [if_pos (by decide)]
        exact hj32 _ ⟨CE.rf, Or.inr ⟨rfl, tkS B L p, s.cf, fun u tst => part_open8 g rfl⟩⟩
  · rw [if_pos rfl, s.2.2.2.1]
    have e50 : (Int32.ofNat lv < 50) ↔ lv < 50 := nn_lt (b := 50) (by have := s.2.2.2.2.1; omega) (by omega)
    by_cases c50 : lv < 50
    · rw [if_pos (e50.mpr c50)]
      refine So_nm ?_
      rw [s1]
      have s2 := s.h5 c50
      have E2 : CE h M (sI M h 5 (Int32.ofNat (lv + 1))) := CE_h (by decide)
      have g4 : mI (sI M h 5 (Int32.ofNat (lv + 1))) (h + 2) = mI M (h + 2) := funext fun k => by rw [mI_sI, if_neg (by omega)]
      generalize sI M h 5 (Int32.ofNat (lv + 1)) = M2 at s2 E2 g4
      have hkl : tkK B L p ≠ 0 → K.length < 400 := fun z => by have := s.2.2.2.2.2.2.1; have := tk3_lt z; omega
      refine So_jn0C (¬ (tkK B L p = 2 ∧ tkN B L p ≤ 1000)) (fun hn => ?_) (fun j3 hj3 => ?_)
      · refine So_jn2R (fun v N => Gp B L h o M K c (17 - 2 * od) (PtS B L o od p lv (17 - 2 * od)) (PtF B L o od p lv) (v, N)) (fun v26 N hN => ?_) (fun j7 hj7 => So_jn1R (fun N => Gp B L h o M K c (17 - 2 * od) (PtS B L o od p lv (17 - 2 * od)) (PtF B L o od p lv) (0, N)) (fun N hN => hj7 _ _ hN) (fun j11 hj11 => ?_))
        · refine So_gd ?_ (So.ok hN)
          rcases hN.2 with ⟨a, _⟩ | ⟨a, _⟩ <;> (simp only [] at a; rw [a]; rfl)
        · rw [s2.2.2.1.2.2.1]
          by_cases k1 : tkK B L p = 1
          · rw [if_neg (fun z => z (by rw [k1]; rfl))]
            refine So_jn1R (fun N => Gp B L h o M K c (17 - 2 * od) (PtS B L o od p lv (17 - 2 * od)) (PtF B L o od p lv) (1, N)) (fun N hN => hj7 _ _ hN) (fun j14 hj14 => ?_)
            rw [s2.2.2.2.2.2.2.2]
            have conv : ∀ (r : Int32) (N : Mem), Gp B L h o M2 K c (17 - 2 * od) (PtS B L o od p lv (17 - 2 * od)) (PtF B L o od p lv) (r, N) → Gp B L h o M K c (17 - 2 * od) (PtS B L o od p lv (17 - 2 * od)) (PtF B L o od p lv) (r, N) := fun r N z => z.ce E2 (fun y => by rw [g4]; exact y) (fun _ _ _ a => a) (fun _ a => a)
            rcases ho with rfl | rfl
            · rw [if_pos rfl, if_neg (by decide)]
              refine So_bdM (lawWord_c (od := od) (d := 17 - 2 * od) s2 c50 rfl k1 (by omega)) (fun r N hr => ?_)
              have hr := conv r N hr
              rcases hr.2 with ⟨a, _⟩ | ⟨a, _⟩
              · have a : r = 1 := a
                subst a
                rw [if_neg (by decide)]; exact hj14 _ hr
              · have a : r = 0 := a
                subst a
                rw [if_pos rfl]; exact hj11 _ hr
            · rw [if_pos (show (if (1 : Nat) = 0 then (1 : Int32) else 0) = 0 from rfl)]
              refine So_bdM (ordWord_c (od := od) (d := 17 - 2 * od) s2 c50 rfl k1 (by omega)) (fun r N hr => ?_)
              have hr := conv r N hr
              rcases hr.2 with ⟨a, _⟩ | ⟨a, _⟩
              · have a : r = 1 := a
                subst a
                rw [if_neg (by decide)]; exact hj14 _ hr
              · have a : r = 0 := a
                subst a
                rw [if_pos rfl]; exact hj11 _ hr
          · rw [if_pos (show ¬ Int32.ofNat (tkK B L p) = 1 from fun z => k1 ((nn_eq (b := 1) (by omega) (by omega)).mp z))]
            exact hj11 _ ⟨E2, Or.inr ⟨rfl, tkS B L p, s2.cf, fun u tst => part_leafB (Or.inl ⟨rfl, Or.inr ⟨hn, fun _ k _ z => k1 z.1, fun _ k _ z => k1 z.1⟩⟩) g⟩⟩
      · rw [s2.2.2.1.2.2.1]
        by_cases k2 : tkK B L p = 2
        · rw [if_neg (fun z => z (by rw [k2]; rfl)), s2.2.2.1.2.2.2 (by omega)]
          have hvv : tkV B L p = Int32.ofNat (min 1001 (tkN B L p)) := by unfold tkV; rw [if_neg (by omega), if_pos k2]
          rw [hvv]
          have e1 : ((1000 : Int32) < Int32.ofNat (min 1001 (tkN B L p))) ↔ 1000 < min 1001 (tkN B L p) := nn_lt (a := 1000) (by omega) (by omega)
          by_cases cn : tkN B L p ≤ 1000
          · rw [if_neg (fun z => by have := e1.mp z; omega), show min 1001 (tkN B L p) = tkN B L p by omega]
            refine So_bdM (put_adv (st := 0) (w := tkN B L p) s2 (by omega) (hkl (by omega))) (fun r N hr => ?_)
            obtain ⟨t1, t2, t3⟩ := hr
            refine So_bdM t3 (fun r' N' hr' => ?_)
            obtain ⟨t1, t2, t3, t4⟩ := hr'
            have t1' : r' = 1 := t1
            rw [t1']
            have hleaf : Leaf B L o p 0 (tkN B L p) 0 (tkN B L p) (tkE B L p) := Or.inl ⟨k2, cn, rfl, rfl, rfl, rfl, rfl⟩
            refine So_gd rfl (So.ok ⟨E2.tr t2, Or.inl ⟨rfl, tkE B L p, lv + 1, [(0, tkN B L p)], dLeaf 0 (tkN B L p), t4, (DC_leaf (Or.inl rfl)).up (by omega), ⟨fun z => ?_, fun _ _ => Ind_leaf (Or.inl rfl)⟩, fun u tst => (part_leaf hleaf c50).up (by omega)⟩⟩)
            show mI N' (h + 2) 4 = 1
            rw [t3, g4]; exact z
          · rw [if_pos (e1.mpr (by omega))]
            exact hj3 (fun z => cn z.2)
        · rw [if_pos (show ¬ Int32.ofNat (tkK B L p) = 2 from fun z => k2 ((nn_eq (b := 2) (by omega) (by omega)).mp z))]
          exact hj3 (fun z => k2 z.1)
    · have hlv : lv = 50 := by have := s.2.2.2.2.1; omega
      rw [if_neg (fun z => c50 (e50.mp z))]
      exact So.ok ⟨CE.rf, Or.inr ⟨rfl, tkS B L p, s.cf, fun u tst => part_leafB (Or.inl ⟨rfl, Or.inl hlv⟩) g⟩⟩
