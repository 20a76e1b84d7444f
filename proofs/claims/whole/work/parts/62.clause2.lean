/-! ===== the class reads a clause ===== -/
def Stg (B : Nat → Nat) (L h o : Nat) (M : Mem) (K : List (Nat × Nat)) (c nc kind times : Nat) (N : Mem) (X : List (Nat × Nat)) (q lvq : Nat) : Prop := CS B L h o N q lvq (K ++ X) c ∧ CM h N nc ∧ CT h M N ∧ (mI M (h + 2) 4 = 1 → mI N (h + 2) 4 = 1) ∧ mI N (h + 4) (6 * nc) = Int32.ofNat kind ∧ mI N (h + 4) (6 * nc + 1) = Int32.ofNat times ∧ mI N (h + 4) (6 * nc + 2) = Int32.ofNat (2 * K.length) ∧ ∀ k, k < 6 * nc → mI N (h + 4) k = mI M (h + 4) k
theorem Stg.ce {B : Nat → Nat} {L h o : Nat} {M N N' : Mem} {K X X' : List (Nat × Nat)} {c nc kind times q lvq q' lvq' : Nat} (s : Stg B L h o M K c nc kind times N X q lvq) (e : CE h N N') (h4 : mI N (h + 2) 4 = 1 → mI N' (h + 2) 4 = 1) (s' : CS B L h o N' q' lvq' (K ++ X') c) : Stg B L h o M K c nc kind times N' X' q' lvq' := by
  obtain ⟨_, m, t, g, c0, c1, c2, cc⟩ := s
  have e4 : mI N' (h + 4) = mI N (h + 4) := (e.1 (h + 4) (by omega) (by omega) (by omega)).1
  exact ⟨s', m.ce e, t.tr e.ct, fun z => h4 (g z), by rw [e4]; exact c0, by rw [e4]; exact c1, by rw [e4]; exact c2, fun k hk => by rw [e4]; exact cc k hk⟩
theorem Stg.mk {B : Nat → Nat} {L h o : Nat} {M N : Mem} {K X : List (Nat × Nat)} {c nc kind times q lvq j : Nat} {v : Int32} (s : Stg B L h o M K c nc kind times N X q lvq) (hj : 6 * nc + 3 ≤ j) : Stg B L h o M K c nc kind times (sI N (h + 4) j v) X q lvq := by
  obtain ⟨s', m, t, g, c0, c1, c2, cc⟩ := s
  have f : ∀ k, k ≠ j → mI (sI N (h + 4) j v) (h + 4) k = mI N (h + 4) k := fun k hk => by rw [mI_sI, if_neg (fun z => hk z.2)]
  exact ⟨s'.mark, m.mk, t.tr CT_m, fun z => by rw [mI_sI, if_neg (by omega)]; exact g z, by rw [f _ (by omega)]; exact c0, by rw [f _ (by omega)]; exact c1, by rw [f _ (by omega)]; exact c2, fun k hk => by rw [f _ (by omega)]; exact cc k hk⟩
theorem chg_z {h : Nat} {M N : Mem} (k : mI M (h + 2) 4 = 0 ∨ mI M (h + 2) 4 = 1) (g : mI M (h + 2) 4 = 1 → mI N (h + 2) 4 = 1) (z : mI N (h + 2) 4 = 0) : mI M (h + 2) 4 = 0 := by
  rcases k with zz | zz
  · exact zz
  · have := g zz; rw [z] at this; exact absurd this (by decide)
theorem readClause_c {B : Nat → Nat} {L h o p lv c nc : Nat} {M : Mem} {K : List (Nat × Nat)} (s : CS B L h o M p lv K c) (m : CM h M nc) (hnc : nc ≤ 12) (ho : o = 0 ∨ o = 1) : So (FX5_readClause h M) (fun r => CT h M r.2 ∧ ((r.1 = 1 ∧ ClG B L h o M p lv K c nc r.2) ∨ (r.1 = 0 ∧ ∃ f, ClB B L o p lv nc f ∧ mI r.2 h 6 = Int32.ofNat f))) := by
  have hk4 : tkK B L p ≤ 3 := by unfold tkK; split; omega; split; omega; split <;> omega
  have hL := s.1.1
  have bad0 : (12 ≤ nc ∨ ∀ k, HdOk o k → ¬ isW B L p k) → So (some ((0 : Int32), M)) (fun r => CT h M r.2 ∧ ((r.1 = 1 ∧ ClG B L h o M p lv K c nc r.2) ∨ (r.1 = 0 ∧ ∃ f, ClB B L o p lv nc f ∧ mI r.2 h 6 = Int32.ofNat f))) := fun hb => So.ok ⟨CT.rf, Or.inr ⟨rfl, tkS B L p, Or.inl ⟨hb, rfl⟩, s.2.2.1.1⟩⟩
  have hd29 : ∀ k, HdOk o k → k < 29 := fun k hk => by rcases hk with ⟨_, z⟩ | ⟨_, _, z⟩ <;> omega
  unfold FX5_readClause
  refine So_jn0 ?_
  rw [m.1]
  by_cases c12 : 12 ≤ nc
  · rw [if_pos (show (12 : Int32) ≤ Int32.ofNat nc from (nn_le (a := 12) (by omega) (by omega)).mpr c12)]
    exact bad0 (Or.inl c12)
  rw [if_neg (show ¬ (12 : Int32) ≤ Int32.ofNat nc from nle (n := 12) (by omega) (by decide)), s.2.2.1.2.2.1]
  have hn12 : nc < 12 := by omega
  by_cases k1 : tkK B L p = 1
  rotate_left
  · rw [if_neg (show ¬ Int32.ofNat (tkK B L p) = 1 from fun z => k1 ((nn_eq (b := 1) (by omega) (by omega)).mp z))]
    exact bad0 (Or.inr (fun k _ z => k1 z.1))
  rw [if_pos (by rw [k1]; rfl), s.2.2.1.2.2.2 (by omega)]
  refine So_nm (So_jn1R (fun v => v = Int32.ofNat (if o = 0 then 0 else 7)) (fun v5 hv5 => So_jn0 ?_) (fun j6 hj6 => ?_))
  rotate_left
  · rw [s.2.2.2.2.2.2.2]
    rcases ho with rfl | rfl
    · rw [if_pos rfl, if_neg (by decide)]; exact hj6 _ rfl
    · rw [if_pos (show (if (1 : Nat) = 0 then (1 : Int32) else 0) = 0 from rfl)]; exact hj6 _ rfl
  subst hv5
  rcases wv_cases k1 with ⟨j, hj, hw, hv⟩ | ⟨hv, hno⟩
  rotate_left
  · rw [hv]
    have hb := bad0 (Or.inr (fun k hk => hno k (hd29 k hk)))
    rw [if_pos (by rcases ho with rfl | rfl <;> decide)]
    exact hb
  rw [hv]
  have nohd : ¬ HdOk o j → ∀ k, HdOk o k → ¬ isW B L p k := fun hn k hk z => hn (by rw [isW_inj hw z hj (hd29 k hk)]; exact hk)
  have e1 : (Int32.ofNat j < Int32.ofNat (if o = 0 then 0 else 7)) ↔ j < (if o = 0 then 0 else 7) := nn_lt (by omega) (by split <;> omega)
  by_cases cl : j < (if o = 0 then 0 else 7)
  · rw [if_pos (e1.mpr cl)]
    refine bad0 (Or.inr (nohd (fun z => ?_)))
    rcases z with ⟨z, _⟩ | ⟨z, z2, _⟩
    · rw [if_pos z] at cl; omega
    · rw [if_neg (by omega)] at cl; omega
  rw [if_neg (fun z => cl (e1.mp z))]
  refine So_jn1R (fun v => v = Int32.ofNat (if o = 0 then 6 else 10)) (fun v10 hv10 => ?_) (fun j11 hj11 => ?_)
  rotate_left
  · rw [s.2.2.2.2.2.2.2]
    rcases ho with rfl | rfl
    · rw [if_pos rfl, if_neg (by decide)]; exact hj11 _ rfl
    · rw [if_pos (show (if (1 : Nat) = 0 then (1 : Int32) else 0) = 0 from rfl)]; exact hj11 _ rfl
  subst hv10
  have e2 : (Int32.ofNat j ≤ Int32.ofNat (if o = 0 then 6 else 10)) ↔ j ≤ (if o = 0 then 6 else 10) := nn_le (by omega) (by split <;> omega)
  by_cases cu : j ≤ (if o = 0 then 6 else 10)
  rotate_left
  · rw [if_neg (fun z => cu (e2.mp z))]
    refine bad0 (Or.inr (nohd (fun z => ?_)))
    rcases z with ⟨z, z2⟩ | ⟨z, _, z2⟩
    · rw [if_pos z] at cu; omega
    · rw [if_neg (by omega)] at cu; omega
  rw [if_pos (e2.mpr cu)]
  have hhd : HdOk o j := by
    rcases ho with z | z
    · rw [if_pos z] at cu; exact Or.inl ⟨z, cu⟩
    · rw [if_neg (by omega)] at cl cu; exact Or.inr ⟨z, by omega, cu⟩
  -- the head is put
  refine So.bindE (mark_so (col := 0) m hn12 (by decide)) ?_
  refine So.bindE (mark_so (col := 1) (v := Int32.ofNat 1) m.mk hn12 (by decide)) ?_
  have sA : CS B L h o (sI (sI M (h + 4) (6 * nc + 0) (Int32.ofNat j)) (h + 4) (6 * nc + 1) (Int32.ofNat 1)) p lv K c := s.mark.mark
  have mA : CM h (sI (sI M (h + 4) (6 * nc + 0) (Int32.ofNat j)) (h + 4) (6 * nc + 1) (Int32.ofNat 1)) nc := m.mk.mk
  have tA : CT h M (sI (sI M (h + 4) (6 * nc + 0) (Int32.ofNat j)) (h + 4) (6 * nc + 1) (Int32.ofNat 1)) := CT_m.tr CT_m
  have cA : ∀ k, mI (sI (sI M (h + 4) (6 * nc + 0) (Int32.ofNat j)) (h + 4) (6 * nc + 1) (Int32.ofNat 1)) (h + 4) k = if k = 6 * nc + 1 then Int32.ofNat 1 else if k = 6 * nc then Int32.ofNat j else mI M (h + 4) k := fun k => by
    rw [mI_sI, mI_sI]
    by_cases z : k = 6 * nc + 1
    · rw [if_pos ⟨rfl, z⟩, if_pos z]
    · rw [if_neg (fun y => z y.2), if_neg z]
      by_cases z2 : k = 6 * nc
      · rw [if_pos ⟨rfl, z2⟩, if_pos z2]
      · rw [if_neg (fun y => z2 y.2), if_neg z2]
  have dA : mI (sI (sI M (h + 4) (6 * nc + 0) (Int32.ofNat j)) (h + 4) (6 * nc + 1) (Int32.ofNat 1)) (h + 2) = mI M (h + 2) := funext fun k => by rw [mI_sI, if_neg (by omega), mI_sI, if_neg (by omega)]
  generalize sI (sI M (h + 4) (6 * nc + 0) (Int32.ofNat j)) (h + 4) (6 * nc + 1) (Int32.ofNat 1) = MA at sA mA tA cA dA
  refine So_bdM (adv_c1 sA (by omega)) (fun r MB hB => ?_)
  obtain ⟨-, eB, dB, sB⟩ := hB
  have dB : mI MB (h + 2) = mI MA (h + 2) := dB
  have sB : CS B L h o MB (tkE B L p) lv K (c + 1) := sB
  have mB := mA.ce eB
  have lB : mI MB (h + 2) 2 = Int32.ofNat (2 * K.length) := sB.2.2.2.2.2.1.2.1
  rw [lB]
  refine So.bindE (mark_so (col := 2) mB hn12 (by decide)) ?_
  have st0 : Stg B L h o M K c nc j 1 (sI MB (h + 4) (6 * nc + 2) (Int32.ofNat (2 * K.length))) [] (tkE B L p) lv := by
    have e4 : mI MB (h + 4) = mI MA (h + 4) := (eB.1 (h + 4) (by omega) (by omega) (by omega)).1
    refine ⟨by simpa using (sB.less (by omega)).mark, mB.mk, (tA.tr eB.ct).tr CT_m, fun z => ?_, ?_, ?_, ?_, fun k hk => ?_⟩
    · rw [mI_sI, if_neg (by omega), dB, dA]; exact z
    · rw [mI_sI, if_neg (by omega), e4, cA, if_neg (by omega), if_pos rfl]
    · rw [mI_sI, if_neg (by omega), e4, cA, if_pos rfl]
    · rw [mI_sI, if_pos ⟨rfl, rfl⟩]
    · rw [mI_sI, if_neg (by omega), e4, cA, if_neg (by omega), if_neg (by omega)]
  generalize sI MB (h + 4) (6 * nc + 2) (Int32.ofNat (2 * K.length)) = M21 at st0
  have rdS0 : RdS B L h o 0 (GX5_readSum 10) := rdS ho 10 0 (by decide) (by decide)
  -- the first sum
  refine So_jn1R (fun N => ∃ p1 lv1 f1 X1, S1 B L o p lv j p1 lv1 f1 ∧ SgC X1 K.length f1 ∧ Stg B L h o M K c nc j 1 N X1 p1 lv1 ∧ (o = 0 → mI N (h + 2) 4 = 0 → IndO f1)) (fun M22 h22 => ?_) (fun j23 hj23 => ?_)
  rotate_left
  · have e6 : (Int32.ofNat j = 6) ↔ j = 6 := nn_eq (b := 6) (by omega) (by omega)
    have e9 : (Int32.ofNat j = 9) ↔ j = 9 := nn_eq (b := 9) (by omega) (by omega)
    by_cases c6 : j = 6
    · rw [if_pos (e6.mpr c6)]
      exact hj23 _ ⟨_, _, none, [], Or.inl ⟨Or.inl c6, rfl, rfl, rfl⟩, Or.inl ⟨rfl, rfl⟩, st0, fun _ _ g hg => by cases hg⟩
    rw [if_neg (fun z => c6 (e6.mp z))]
    by_cases c9 : j = 9
    · rw [if_pos (e9.mpr c9)]
      exact hj23 _ ⟨_, _, none, [], Or.inl ⟨Or.inr c9, rfl, rfl, rfl⟩, Or.inl ⟨rfl, rfl⟩, st0, fun _ _ g hg => by cases hg⟩
    rw [if_neg (fun z => c9 (e9.mp z))]
    unfold FX5_readSumR
    refine So_bdM (rdS0 M21 (tkE B L p) lv K c (by simpa using st0.1)) (fun r N hr => ?_)
    obtain ⟨e1', ⟨a, p1, lv1, X1, f, b1, b2, b3, b4⟩ | ⟨a, pf, b1, b2⟩⟩ := hr
    · have a : r = 1 := a
      rw [a, if_pos (by decide)]
      exact hj23 _ ⟨p1, lv1, some f, X1, Or.inr ⟨c6, c9, f, rfl, b4⟩, Or.inr ⟨f, rfl, b2.up (by decide)⟩, st0.ce e1' b3.1 b1, fun y z g hg => by cases hg; exact b3.2 y z⟩
    · have a : r = 0 := a
      rw [a, if_neg (by decide)]
      exact So.ok ⟨st0.2.2.1.tr e1'.ct, Or.inr ⟨rfl, pf, Or.inr ⟨hn12, j, hhd, hw, Or.inl ⟨c6, c9, b2⟩⟩, b1.1⟩⟩
  obtain ⟨p1, lv1, f1, X1, hS1, g1, st1, i1⟩ := h22
  have l1 : mI M22 (h + 2) 2 = Int32.ofNat (2 * (K.length + X1.length)) := by
    have := st1.1.2.2.2.2.2.1.2.1
    simpa only [List.length_append] using this
  rw [l1]
  refine So.bindE (mark_so (col := 3) st1.2.1 hn12 (by decide)) ?_
  have st1' : Stg B L h o M K c nc j 1 (sI M22 (h + 4) (6 * nc + 3) (Int32.ofNat (2 * (K.length + X1.length)))) X1 p1 lv1 := st1.mk (by omega)
  have c3' : mI (sI M22 (h + 4) (6 * nc + 3) (Int32.ofNat (2 * (K.length + X1.length)))) (h + 4) (6 * nc + 3) = Int32.ofNat (2 * (K.length + X1.length)) := by rw [mI_sI, if_pos ⟨rfl, rfl⟩]
  have d3' : mI (sI M22 (h + 4) (6 * nc + 3) (Int32.ofNat (2 * (K.length + X1.length)))) (h + 2) = mI M22 (h + 2) := (Ea_sI (by omega)).1
  rw [← d3'] at i1
  generalize sI M22 (h + 4) (6 * nc + 3) (Int32.ofNat (2 * (K.length + X1.length))) = M27 at st1' c3' i1
  -- the second sum
  refine So_jn1R (fun N => ∃ p2 lv2 f2 X2, S2 B L o p1 lv1 j p2 lv2 f2 ∧ SgC X2 (K.length + X1.length) f2 ∧ Stg B L h o M K c nc j 1 N (X1 ++ X2) p2 lv2 ∧ (o = 0 → mI N (h + 2) 4 = 0 → IndO f1) ∧ mI N (h + 4) (6 * nc + 3) = Int32.ofNat (2 * (K.length + X1.length))) (fun M28 h28 => ?_) (fun j29 hj29 => ?_)
  rotate_left
  · have e7 : (Int32.ofNat j = 7) ↔ j = 7 := nn_eq (b := 7) (by omega) (by omega)
    have e8 : (Int32.ofNat j = 8) ↔ j = 8 := nn_eq (b := 8) (by omega) (by omega)
    refine So_jn0C (j = 7 ∨ j = 8) (fun h78 => ?_) (fun j53 hj53 => ?_)
    · have s27 : CS B L h o M27 p1 lv1 (K ++ X1) c := st1'.1
      refine So_bdM (skipWord_c (j := 25) s27 (by decide)) (fun r N hr => So_jn1 ?_)
      rcases hr with ⟨q1, q2, q3, q4, q5⟩ | ⟨q1, q2⟩
      · have q2 : r = 1 := q2
        have q4 : mI N (h + 2) = mI M27 (h + 2) := q4
        rw [q2, if_neg (by decide)]
        unfold FX5_readSumR
        refine So_bdM (rdS0 N (tkE B L p1) lv1 (K ++ X1) c (q5.less (by omega))) (fun r' N' hr' => ?_)
        obtain ⟨e1', ⟨a, p2, lv2, X2, f, b1, b2, b3, b4⟩ | ⟨a, pf, b1, b2⟩⟩ := hr'
        · have a : r' = 1 := a
          rw [a, if_pos (by decide)]
          refine hj29 _ ⟨p2, lv2, some f, X2, Or.inr ⟨h78, q1, f, rfl, b4⟩, Or.inr ⟨f, rfl, ?_⟩, st1'.ce (q3.tr e1') (fun z => b3.1 (by rw [q4]; exact z)) (by rw [← List.append_assoc]; exact b1), fun y z => ?_, ?_⟩
          · rw [List.length_append] at b2; exact b2.up (by decide)
          · refine i1 y (chg_z s27.2.2.2.2.2.1.2.2.2 (fun zz => b3.1 (by rw [q4]; exact zz)) z)
          · show mI N' (h + 4) _ = _
            rw [((q3.tr e1').1 (h + 4) (by omega) (by omega) (by omega)).1]; exact c3'
        · have a : r' = 0 := a
          rw [a, if_neg (by decide)]
          exact So.ok ⟨st1'.2.2.1.tr (q3.tr e1').ct, Or.inr ⟨rfl, pf, Or.inr ⟨hn12, j, hhd, hw, Or.inr ⟨p1, lv1, f1, hS1, Or.inl ⟨h78, Or.inr ⟨q1, b2⟩⟩⟩⟩, b1.1⟩⟩
      · cases q2
        rw [if_pos rfl]
        exact So.ok ⟨st1'.2.2.1, Or.inr ⟨rfl, tkS B L p1, Or.inr ⟨hn12, j, hhd, hw, Or.inr ⟨p1, lv1, f1, hS1, Or.inl ⟨h78, Or.inl ⟨q1, rfl⟩⟩⟩⟩, s27.2.2.1.1⟩⟩
    · by_cases c7 : j = 7
      · rw [if_pos (e7.mpr c7)]; exact hj53 (Or.inl c7)
      rw [if_neg (fun z => c7 (e7.mp z))]
      by_cases c8 : j = 8
      · rw [if_neg (fun z => z (e8.mpr c8))]; exact hj53 (Or.inr c8)
      rw [if_pos (fun z => c8 (e8.mp z))]
      exact hj29 _ ⟨p1, lv1, none, [], Or.inl ⟨c7, c8, rfl, rfl, rfl⟩, Or.inl ⟨rfl, rfl⟩, by simpa using st1', i1, c3'⟩
  obtain ⟨p2, lv2, f2, X2, hS2, g2, st2, i2, c3''⟩ := h28
  -- how often
  refine So_jn1R (fun N => ∃ times p3, S3 B L o p2 times p3 ∧ CS B L h o N p3 lv2 (K ++ X1 ++ X2) c ∧ CM h N nc ∧ CT h M N ∧ (mI M (h + 2) 4 = 1 → mI N (h + 2) 4 = 1) ∧ (o = 0 → mI N (h + 2) 4 = 0 → IndO f1) ∧ mI N (h + 4) (6 * nc) = Int32.ofNat j ∧ mI N (h + 4) (6 * nc + 1) = Int32.ofNat times ∧ mI N (h + 4) (6 * nc + 2) = Int32.ofNat (2 * K.length) ∧ mI N (h + 4) (6 * nc + 3) = Int32.ofNat (2 * (K.length + X1.length)) ∧ ∀ k, k < 6 * nc → mI N (h + 4) k = mI M (h + 4) k) (fun M31 h31 => ?_) (fun j32 hj32 => ?_)
  · obtain ⟨times, p3, hS3, a1, a2, a3, a4, a5, a6, a7, a8, a9, a10⟩ := h31
    exact clause_tail hn12 ho hhd hw hS1 hS2 hS3 a1 a2 g1 g2 a3 a5 a4 a6 a7 a8 a9 a10
  have s28 : CS B L h o M28 p2 lv2 (K ++ X1 ++ X2) c := by rw [List.append_assoc]; exact st2.1
  have ok1 : (o = 0 ∨ ¬ isW B L p2 24) → So (j32 M28) (fun r => CT h M r.2 ∧ ((r.1 = 1 ∧ ClG B L h o M p lv K c nc r.2) ∨ (r.1 = 0 ∧ ∃ f, ClB B L o p lv nc f ∧ mI r.2 h 6 = Int32.ofNat f))) := fun hz => hj32 _ ⟨1, p2, Or.inl ⟨hz, rfl, rfl⟩, s28, st2.2.1, st2.2.2.1, st2.2.2.2.1, i2, st2.2.2.2.2.1, st2.2.2.2.2.2.1, st2.2.2.2.2.2.2.1, c3'', st2.2.2.2.2.2.2.2⟩
  rw [s28.2.2.2.2.2.2.2]
  rcases ho with rfl | rfl
  · rw [if_pos (show ¬ (if (0 : Nat) = 0 then (1 : Int32) else 0) = 0 by decide)]
    exact ok1 (Or.inl rfl)
  · rw [if_neg (show ¬ ¬ (if (1 : Nat) = 0 then (1 : Int32) else 0) = 0 by decide)]
    refine So_bdM (skipWord_c (j := 24) s28 (by decide)) (fun r N hr => ?_)
    rcases hr with ⟨q1, q2, q3, q4, q5⟩ | ⟨q1, q2⟩
    · have q2 : r = 1 := q2
      have q5 : CS B L h 1 N (tkE B L p2) lv2 (K ++ X1 ++ X2) (c + 1) := q5
      rw [q2, if_neg (by decide)]
      have hk4' : tkK B L (tkE B L p2) ≤ 3 := by unfold tkK; split; omega; split; omega; split <;> omega
      have badt : ¬ (tkK B L (tkE B L p2) = 2 ∧ 1 ≤ tkN B L (tkE B L p2) ∧ tkN B L (tkE B L p2) ≤ 20) → CT h M N ∧ ClB B L 1 p lv nc (tkS B L (tkE B L p2)) := fun hn => ⟨st2.2.2.1.tr q3.ct, Or.inr ⟨hn12, j, hhd, hw, Or.inr ⟨p1, lv1, f1, hS1, Or.inr ⟨p2, lv2, f2, hS2, Or.inl ⟨rfl, q1, hn, rfl⟩⟩⟩⟩⟩
      refine So_bdM (R := fun r' => (r'.1 = 0 ∧ r'.2 = N ∧ ¬ (tkK B L (tkE B L p2) = 2 ∧ 1 ≤ tkN B L (tkE B L p2) ∧ tkN B L (tkE B L p2) ≤ 20)) ∨ (r'.1 = 1 ∧ (tkK B L (tkE B L p2) = 2 ∧ 1 ≤ tkN B L (tkE B L p2) ∧ tkN B L (tkE B L p2) ≤ 20) ∧ ∃ MC, MC = sI N (h + 4) (6 * nc + 1) (Int32.ofNat (tkN B L (tkE B L p2))) ∧ CE h MC r'.2 ∧ mI r'.2 (h + 2) = mI MC (h + 2) ∧ CS B L h 1 r'.2 (tkE B L (tkE B L p2)) lv2 (K ++ X1 ++ X2) (c + 1 + 1))) ?_ (fun r' N' hr' => ?_)
      · unfold FX5_readTimes
        refine So_jn0C (¬ (tkK B L (tkE B L p2) = 2 ∧ 1 ≤ tkN B L (tkE B L p2) ∧ tkN B L (tkE B L p2) ≤ 20)) (fun hn => So.ok (Or.inl ⟨rfl, rfl, hn⟩)) (fun jj hjj => ?_)
        rw [q5.2.2.1.2.2.1]
        by_cases k2 : tkK B L (tkE B L p2) = 2
        · rw [if_neg (fun z => z (by rw [k2]; rfl)), q5.2.2.1.2.2.2 (by omega)]
          have hvv : tkV B L (tkE B L p2) = Int32.ofNat (min 1001 (tkN B L (tkE B L p2))) := by unfold tkV; rw [if_neg (by omega), if_pos k2]
          rw [hvv]
          have e1 : (Int32.ofNat (min 1001 (tkN B L (tkE B L p2))) < 1) ↔ min 1001 (tkN B L (tkE B L p2)) < 1 := nn_lt (b := 1) (by omega) (by omega)
          have e2 : (Int32.ofNat (min 1001 (tkN B L (tkE B L p2))) ≤ 20) ↔ min 1001 (tkN B L (tkE B L p2)) ≤ 20 := nn_le (b := 20) (by omega) (by omega)
          by_cases d1 : tkN B L (tkE B L p2) < 1
          · rw [if_pos (e1.mpr (by omega))]; exact hjj (fun z => by omega)
          rw [if_neg (fun z => by have := e1.mp z; omega)]
          by_cases d2 : tkN B L (tkE B L p2) ≤ 20
          · rw [if_pos (e2.mpr (by omega)), show min 1001 (tkN B L (tkE B L p2)) = tkN B L (tkE B L p2) by omega]
            refine So.bindE (mark_so (col := 1) (st2.2.1.ce q3) hn12 (by decide)) ?_
            refine So_bdM (adv_c1 q5.mark (by omega)) (fun r6 N6 h6 => ?_)
            have h61 : r6 = 1 := h6.1
            rw [h61]
            exact So_gd rfl (So.ok (Or.inr ⟨rfl, ⟨k2, by omega, d2⟩, _, rfl, h6.2⟩))
          · rw [if_neg (fun z => by have := e2.mp z; omega)]; exact hjj (fun z => by omega)
        · rw [if_pos (show ¬ Int32.ofNat (tkK B L (tkE B L p2)) = 2 from fun z => k2 ((nn_eq (b := 2) (by omega) (by omega)).mp z))]
          exact hjj (fun z => k2 z.1)
      · rcases hr' with ⟨x1, x2, x3⟩ | ⟨x1, x2, MC, rfl, x4, x5, x6⟩
        · have x1 : r' = 0 := x1
          have x2 : N' = N := x2
          subst x2
          rw [x1, if_neg (by decide)]
          obtain ⟨y1, y2⟩ := badt x3
          exact So.ok ⟨y1, Or.inr ⟨rfl, _, y2, q5.2.2.1.1⟩⟩
        · have x1 : r' = 1 := x1
          rw [x1, if_pos (by decide)]
          have x4 : CE h (sI N (h + 4) (6 * nc + 1) (Int32.ofNat (tkN B L (tkE B L p2)))) N' := x4
          have e4 : mI N' (h + 4) = mI (sI N (h + 4) (6 * nc + 1) (Int32.ofNat (tkN B L (tkE B L p2)))) (h + 4) := (x4.1 (h + 4) (by omega) (by omega) (by omega)).1
          have e4' : mI N (h + 4) = mI M28 (h + 4) := (q3.1 (h + 4) (by omega) (by omega) (by omega)).1
          have cell : ∀ k, k ≠ 6 * nc + 1 → mI N' (h + 4) k = mI M28 (h + 4) k := fun k hk => by rw [e4, mI_sI, if_neg (fun z => hk z.2), e4']
          refine hj32 _ ⟨tkN B L (tkE B L p2), _, Or.inr ⟨rfl, q1, x2.1, x2.2.1, x2.2.2, rfl, rfl⟩, x6.less (by omega), (st2.2.1.ce q3).mk.ce x4, ((st2.2.2.1.tr q3.ct).tr CT_m).tr x4.ct, fun z => ?_, fun y => absurd y (by decide), ?_, ?_, ?_, ?_, fun k hk => ?_⟩
          · have x5 : mI N' (h + 2) = _ := x5
            have q4 : mI N (h + 2) = mI M28 (h + 2) := q4
            rw [x5, mI_sI, if_neg (by omega), q4]; exact st2.2.2.2.1 z
          · rw [cell _ (by omega)]; exact st2.2.2.2.2.1
          · rw [e4, mI_sI, if_pos ⟨rfl, rfl⟩]
          · rw [cell _ (by omega)]; exact st2.2.2.2.2.2.2.1
          · rw [cell _ (by omega)]; exact c3''
          · rw [cell _ (by omega)]; exact st2.2.2.2.2.2.2.2 k hk
    · cases q2
      rw [if_pos rfl]
      exact ok1 (Or.inr q1)
