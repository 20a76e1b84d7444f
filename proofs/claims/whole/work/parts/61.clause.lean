/-! ===== a clause, as tokens ===== -/
def HdOk (o kind : Nat) : Prop := (o = 0 ∧ kind ≤ 6) ∨ (o = 1 ∧ 7 ≤ kind ∧ kind ≤ 10)
def S1 (B : Nat → Nat) (L o p lv kind p1 lv1 : Nat) (f1 : Option Den) : Prop := ((kind = 6 ∨ kind = 9) ∧ p1 = tkE B L p ∧ lv1 = lv ∧ f1 = none) ∨ (kind ≠ 6 ∧ kind ≠ 9 ∧ ∃ f, f1 = some f ∧ SmS B L o 0 (tkE B L p) lv 19 p1 lv1 f)
def S2 (B : Nat → Nat) (L o p1 lv1 kind p2 lv2 : Nat) (f2 : Option Den) : Prop := (kind ≠ 7 ∧ kind ≠ 8 ∧ p2 = p1 ∧ lv2 = lv1 ∧ f2 = none) ∨ ((kind = 7 ∨ kind = 8) ∧ isW B L p1 25 ∧ ∃ f, f2 = some f ∧ SmS B L o 0 (tkE B L p1) lv1 19 p2 lv2 f)
def S3 (B : Nat → Nat) (L o p2 times p3 : Nat) : Prop := ((o = 0 ∨ ¬ isW B L p2 24) ∧ times = 1 ∧ p3 = p2) ∨ (o = 1 ∧ isW B L p2 24 ∧ tkK B L (tkE B L p2) = 2 ∧ 1 ≤ tkN B L (tkE B L p2) ∧ tkN B L (tkE B L p2) ≤ 20 ∧ times = tkN B L (tkE B L p2) ∧ p3 = tkE B L (tkE B L p2))
def S4 (B : Nat → Nat) (L o p3 lv2 p' lv' : Nat) (ft : Option Den) : Prop := (¬ isW B L p3 23 ∧ p' = p3 ∧ lv' = lv2 ∧ ft = none) ∨ (isW B L p3 23 ∧ ∃ f, ft = some f ∧ TsS B L o 0 (tkE B L p3) lv2 20 p' lv' f)
/-- how a clause can fail -/
def ClB (B : Nat → Nat) (L o p lv nc f : Nat) : Prop :=
  ((12 ≤ nc ∨ ∀ k, HdOk o k → ¬ isW B L p k) ∧ f = tkS B L p) ∨
  (nc < 12 ∧ ∃ kind, HdOk o kind ∧ isW B L p kind ∧
    ((kind ≠ 6 ∧ kind ≠ 9 ∧ SmF B L o 0 (tkE B L p) lv f) ∨
     ∃ p1 lv1 f1, S1 B L o p lv kind p1 lv1 f1 ∧
      (((kind = 7 ∨ kind = 8) ∧ ((¬ isW B L p1 25 ∧ f = tkS B L p1) ∨ (isW B L p1 25 ∧ SmF B L o 0 (tkE B L p1) lv1 f))) ∨
       ∃ p2 lv2 f2, S2 B L o p1 lv1 kind p2 lv2 f2 ∧
        ((o = 1 ∧ isW B L p2 24 ∧ ¬ (tkK B L (tkE B L p2) = 2 ∧ 1 ≤ tkN B L (tkE B L p2) ∧ tkN B L (tkE B L p2) ≤ 20) ∧ f = tkS B L (tkE B L p2)) ∨
         ∃ times p3, S3 B L o p2 times p3 ∧ isW B L p3 23 ∧ TsF B L o 0 (tkE B L p3) lv2 f))))
def SgC (X : List (Nat × Nat)) (a : Nat) (f : Option Den) : Prop := (f = none ∧ X = []) ∨ ∃ g, f = some g ∧ DC X a 20 g
def SgR (o : Nat) (X : List (Nat × Nat)) (a : Nat) (f : Option Den) : Prop := (f = none ∧ X = []) ∨ ∃ g, f = some g ∧ DR o X a 20 g
/-! ===== the class reads a clause ===== -/
def CT (h : Nat) (M N : Mem) : Prop := (∀ a, a ≠ h → a ≠ h + 2 → a ≠ h + 3 → a ≠ h + 4 → Ea M N a) ∧ (∀ k, k ∉ ([5, 6, 7, 8, 9] : List Nat) → mI N h k = mI M h k) ∧ (∀ k, k ≠ 2 → k ≠ 3 → k ≠ 4 → mI N (h + 2) k = mI M (h + 2) k) ∧ mN N = mN M ∧ (∀ a, mJ N a = mJ M a) ∧ (∀ a, mR N a = mR M a)
theorem CT.rf {h : Nat} {M : Mem} : CT h M M := ⟨fun a _ _ _ _ => Ea.rf M a, fun _ _ => rfl, fun _ _ _ _ => rfl, rfl, fun _ => rfl, fun _ => rfl⟩
theorem CT.tr {h : Nat} {M N K : Mem} (a : CT h M N) (b : CT h N K) : CT h M K := ⟨fun q h1 h2 h3 h4 => (a.1 q h1 h2 h3 h4).tr (b.1 q h1 h2 h3 h4), fun k h1 => (b.2.1 k h1).trans (a.2.1 k h1), fun k h1 h2 h3 => (b.2.2.1 k h1 h2 h3).trans (a.2.2.1 k h1 h2 h3), b.2.2.2.1.trans a.2.2.2.1, fun q => (b.2.2.2.2.1 q).trans (a.2.2.2.2.1 q), fun q => (b.2.2.2.2.2 q).trans (a.2.2.2.2.2 q)⟩
theorem CE.ct {h : Nat} {M N : Mem} (a : CE h M N) : CT h M N := ⟨fun q h1 h2 h3 _ => a.1 q h1 h2 h3, a.2.1, fun k h1 _ h3 => a.2.2.1 k h1 h3, a.2.2.2.1, a.2.2.2.2.1, a.2.2.2.2.2⟩
/-- the draft's clauses -/
def CM (h : Nat) (M : Mem) (nc : Nat) : Prop := mI M (h + 2) 3 = Int32.ofNat nc ∧ mN M (h + 4) = 72
theorem CS.mark {B : Nat → Nat} {L h o p lv c k : Nat} {M : Mem} {K : List (Nat × Nat)} {v : Int32} (s : CS B L h o M p lv K c) : CS B L h o (sI M (h + 4) k v) p lv K c := by
  obtain ⟨s1', s2, s3, s4, s5, s6, s7, s8⟩ := s
  have f : ∀ j, mI (sI M (h + 4) k v) h j = mI M h j := fun j => by rw [mI_sI, if_neg (by omega)]
  have g : ∀ q, q ≠ h + 4 → mI (sI M (h + 4) k v) q = mI M q := fun q hq => (Ea_sI hq).1
  exact ⟨⟨s1'.1, by rw [f]; exact s1'.2.1, fun j hj => by rw [g _ (by omega)]; exact s1'.2.2 j hj⟩, s2, ⟨by rw [f]; exact s3.1, by rw [f]; exact s3.2.1, by rw [f]; exact s3.2.2.1, fun z => by rw [f]; exact s3.2.2.2 z⟩, by rw [f]; exact s4, s5, s6.keep (g _ (by omega)) (g _ (by omega)) rfl, s7, by rw [f]; exact s8⟩
theorem mark_so {h nc col : Nat} {M : Mem} {v : Int32} (m : CM h M nc) (hn : nc < 12) (hc : col < 6) : FX9_mark (h + 2) (Int32.ofNat col) v M = some (sI M (h + 4) (6 * nc + col) v) := by
  apply So.eq
  unfold FX9_mark
  refine So_nm (So_jn1 ?_)
  have e : mI M (h + 2) 3 * 6 + Int32.ofNat col = Int32.ofNat (6 * nc + col) := by
    rw [m.1, show (6 : Int32) = Int32.ofNat 6 from rfl, nn_mul, nn_add, Nat.mul_comm]
  rw [e, show h + 2 + 2 = h + 4 by omega, m.2]
  rw [if_neg (show ¬ Int32.ofNat (6 * nc + col) < 0 by rw [Int32.lt_iff_toInt_lt, nn_int (by omega), show (0 : Int32).toInt = 0 from rfl]; omega), if_neg (nle (show 6 * nc + col < 72 by omega) (by decide)), nn_ix (by omega)]
  exact So_gd (inb_nn (by omega) (by decide)) (So_nm (So.ok rfl))
theorem CM.ce {h nc : Nat} {M N : Mem} (m : CM h M nc) (e : CE h M N) : CM h N nc := ⟨by rw [e.2.2.1 3 (by decide) (by decide)]; exact m.1, by rw [e.2.2.2.1]; exact m.2⟩
theorem CM.mk {h nc k : Nat} {M : Mem} {v : Int32} (m : CM h M nc) : CM h (sI M (h + 4) k v) nc := ⟨by rw [mI_sI, if_neg (by omega)]; exact m.1, m.2⟩
theorem CT_m {h k : Nat} {M : Mem} {v : Int32} : CT h M (sI M (h + 4) k v) := ⟨fun a _ _ _ x => Ea_sI x, fun j _ => by rw [mI_sI, if_neg (by omega)], fun j _ _ _ => by rw [mI_sI, if_neg (by omega)], rfl, fun _ => rfl, fun _ => rfl⟩
/-- the cells of the clauses, but for one -/
def CLs (h : Nat) (M N : Mem) (P : Nat → Prop) : Prop := ∀ k, ¬ P k → mI N (h + 4) k = mI M (h + 4) k
def IndO (f : Option Den) : Prop := ∀ g, f = some g → Ind g
/-- a clause was read -/
def ClG (B : Nat → Nat) (L h o : Nat) (M : Mem) (p lv : Nat) (K : List (Nat × Nat)) (c nc : Nat) (N : Mem) : Prop := ∃ kind times p1 lv1 p2 lv2 p3 p' lv' f1 f2 ft X1 X2 Xt, nc < 12 ∧ HdOk o kind ∧ isW B L p kind ∧ S1 B L o p lv kind p1 lv1 f1 ∧ S2 B L o p1 lv1 kind p2 lv2 f2 ∧ S3 B L o p2 times p3 ∧ S4 B L o p3 lv2 p' lv' ft ∧ CS B L h o N p' lv' (K ++ X1 ++ X2 ++ Xt) c ∧ CM h N (nc + 1) ∧ SgC X1 K.length f1 ∧ SgC X2 (K.length + X1.length) f2 ∧ SgC Xt (K.length + X1.length + X2.length) ft ∧ (o = 0 → mI N (h + 2) 4 = 0 → IndO f1 ∧ IndO ft) ∧ (mI M (h + 2) 4 = 1 → mI N (h + 2) 4 = 1) ∧ mI N (h + 4) (6 * nc) = Int32.ofNat kind ∧ mI N (h + 4) (6 * nc + 1) = Int32.ofNat times ∧ mI N (h + 4) (6 * nc + 2) = Int32.ofNat (2 * K.length) ∧ mI N (h + 4) (6 * nc + 3) = Int32.ofNat (2 * (K.length + X1.length)) ∧ mI N (h + 4) (6 * nc + 4) = Int32.ofNat (2 * (K.length + X1.length + X2.length)) ∧ mI N (h + 4) (6 * nc + 5) = Int32.ofNat (2 * (K.length + X1.length + X2.length + Xt.length)) ∧ ∀ k, k < 6 * nc → mI N (h + 4) k = mI M (h + 4) k
theorem S1_up {B : Nat → Nat} {L o p lv od p' lv' d : Nat} {f : Den} (h : SmS B L o od p lv d p' lv' f) (hd : d ≤ 19) : SmS B L o od p lv 19 p' lv' f := ⟨h.1, fun u tst => (h.2 u tst).up hd⟩
/-- the last part: the test -/
theorem clause_tail {B : Nat → Nat} {L h o p lv c nc : Nat} {M : Mem} {K : List (Nat × Nat)} (hnc : nc < 12) (ho : o = 0 ∨ o = 1) {kind times p1 lv1 p2 lv2 p3 : Nat} {f1 f2 : Option Den} {X1 X2 : List (Nat × Nat)} {N : Mem} (h1 : HdOk o kind) (h2 : isW B L p kind) (h3 : S1 B L o p lv kind p1 lv1 f1) (h4 : S2 B L o p1 lv1 kind p2 lv2 f2) (h5 : S3 B L o p2 times p3) (s : CS B L h o N p3 lv2 (K ++ X1 ++ X2) c) (m : CM h N nc) (g1 : SgC X1 K.length f1) (g2 : SgC X2 (K.length + X1.length) f2) (hT : CT h M N) (hi : o = 0 → mI N (h + 2) 4 = 0 → IndO f1) (hch : mI M (h + 2) 4 = 1 → mI N (h + 2) 4 = 1) (c0 : mI N (h + 4) (6 * nc) = Int32.ofNat kind) (c1 : mI N (h + 4) (6 * nc + 1) = Int32.ofNat times) (c2 : mI N (h + 4) (6 * nc + 2) = Int32.ofNat (2 * K.length)) (c3 : mI N (h + 4) (6 * nc + 3) = Int32.ofNat (2 * (K.length + X1.length))) (cc : ∀ k, k < 6 * nc → mI N (h + 4) k = mI M (h + 4) k) : So ((FX9_mark (h + 2) 4 (mI N (h + 2) 2) N).bind fun M36 => bdM (FX5_skipWord h 23 M36) fun r38 M37 => jn1 (fun (M39 : Mem) => (FX9_mark (h + 2) 5 (mI M39 (h + 2) 2) M39).bind fun M44 => nm (sI M44 (h + 2) 3 ((mI M44 (h + 2) 3) + 1)) fun M46 => some ((1 : Int32), M46)) fun j40 => if r38 = 0 then j40 M37 else bdM (FX5_readTestR h 0 M37) fun r48 M47 => if ¬ r48 = 0 then j40 M47 else some (0, M47)) (fun r => CT h M r.2 ∧ ((r.1 = 1 ∧ ClG B L h o M p lv K c nc r.2) ∨ (r.1 = 0 ∧ ∃ f, ClB B L o p lv nc f ∧ mI r.2 h 6 = Int32.ofNat f))) := by
  have l2 : mI N (h + 2) 2 = Int32.ofNat (2 * (K.length + X1.length + X2.length)) := by
    have := s.2.2.2.2.2.1.2.1
    simpa only [List.length_append] using this
  rw [l2, show (4 : Int32) = Int32.ofNat 4 from rfl, mark_so m hnc (by decide)]
  refine So.bindE rfl ?_
  generalize hN1 : sI N (h + 4) (6 * nc + 4) (Int32.ofNat (2 * (K.length + X1.length + X2.length))) = N1
  have s1' : CS B L h o N1 p3 lv2 (K ++ X1 ++ X2) c := by rw [← hN1]; exact s.mark
  have m1 : CM h N1 nc := by rw [← hN1]; exact m.mk
  have T1 : CT h N N1 := by rw [← hN1]; exact CT_m
  have ch1 : mI N1 (h + 2) = mI N (h + 2) := by rw [← hN1]; exact (Ea_sI (by omega)).1
  have k4 : mI N1 (h + 4) (6 * nc + 4) = Int32.ofNat (2 * (K.length + X1.length + X2.length)) := by rw [← hN1, mI_sI, if_pos ⟨rfl, rfl⟩]
  have kk : ∀ k, k ≠ 6 * nc + 4 → mI N1 (h + 4) k = mI N (h + 4) k := fun k hk => by rw [← hN1, mI_sI, if_neg (fun z => hk z.2)]
  have fin : ∀ (N2 : Mem) (Xt : List (Nat × Nat)) (p' lv' : Nat) (ft : Option Den), CE h N1 N2 → CS B L h o N2 p' lv' (K ++ X1 ++ X2 ++ Xt) c → SgC Xt (K.length + X1.length + X2.length) ft → S4 B L o p3 lv2 p' lv' ft → (o = 0 → mI N2 (h + 2) 4 = 0 → mI N1 (h + 2) 4 = 0 ∧ IndO ft) → (mI N1 (h + 2) 4 = 1 → mI N2 (h + 2) 4 = 1) → So ((FX9_mark (h + 2) 5 (mI N2 (h + 2) 2) N2).bind fun M44 => nm (sI M44 (h + 2) 3 ((mI M44 (h + 2) 3) + 1)) fun M46 => some ((1 : Int32), M46)) (fun r => CT h M r.2 ∧ ((r.1 = 1 ∧ ClG B L h o M p lv K c nc r.2) ∨ (r.1 = 0 ∧ ∃ f, ClB B L o p lv nc f ∧ mI r.2 h 6 = Int32.ofNat f))) := by
    intro N2 Xt p' lv' ft e2 s2 gt h6 hi2 hch2
    have m2 := m1.ce e2
    have l3 : mI N2 (h + 2) 2 = Int32.ofNat (2 * (K.length + X1.length + X2.length + Xt.length)) := by
      have := s2.2.2.2.2.2.1.2.1
      simpa only [List.length_append] using this
    rw [l3, show (5 : Int32) = Int32.ofNat 5 from rfl, mark_so m2 hnc (by decide)]
    refine So.bindE rfl (So_nm (So.ok ?_))
    have e3 : mI (sI N2 (h + 4) (6 * nc + 5) (Int32.ofNat (2 * (K.length + X1.length + X2.length + Xt.length)))) (h + 2) 3 = Int32.ofNat nc := by rw [mI_sI, if_neg (by omega)]; exact m2.1
    rw [e3, s1]
    have s3 : CS B L h o (sI N2 (h + 4) (6 * nc + 5) (Int32.ofNat (2 * (K.length + X1.length + X2.length + Xt.length)))) p' lv' (K ++ X1 ++ X2 ++ Xt) c := s2.mark
    generalize hN3 : sI N2 (h + 4) (6 * nc + 5) (Int32.ofNat (2 * (K.length + X1.length + X2.length + Xt.length))) = N3 at s3
    have kb : ∀ k, k ≠ 6 * nc + 5 → mI N3 (h + 4) k = mI N1 (h + 4) k := fun k hk => by rw [← hN3, mI_sI, if_neg (fun z => hk z.2), (e2.1 (h + 4) (by omega) (by omega) (by omega)).1]
    have k5 : mI N3 (h + 4) (6 * nc + 5) = Int32.ofNat (2 * (K.length + X1.length + X2.length + Xt.length)) := by rw [← hN3, mI_sI, if_pos ⟨rfl, rfl⟩]
    have T3 : CT h N2 N3 := by rw [← hN3]; exact CT_m
    have n3 : mN N3 (h + 4) = 72 := by rw [T3.2.2.2.1]; exact m2.2
    have ch3 : mI N3 (h + 2) = mI N2 (h + 2) := by rw [← hN3]; exact (Ea_sI (by omega)).1
    generalize hN4 : sI N3 (h + 2) 3 (Int32.ofNat (nc + 1)) = N4
    have f4 : ∀ q, q ≠ h + 2 → mI N4 q = mI N3 q := fun q hq => by rw [← hN4]; exact (Ea_sI hq).1
    have f42 : ∀ k, k ≠ 3 → mI N4 (h + 2) k = mI N3 (h + 2) k := fun k hk => by rw [← hN4, mI_sI, if_neg (fun z => hk z.2)]
    have T4 : CT h N3 N4 := by rw [← hN4]; exact ⟨fun a _ x _ _ => Ea_sI x, fun j _ => by rw [mI_sI, if_neg (by omega)], fun j _ y _ => by rw [mI_sI, if_neg (fun z => y z.2)], rfl, fun _ => rfl, fun _ => rfl⟩
    have s4 : CS B L h o N4 p' lv' (K ++ X1 ++ X2 ++ Xt) c := by
      obtain ⟨a1, a2, a3, a4, a5, ⟨b1, b2, b3, b4⟩, a7, a8⟩ := s3
      refine ⟨⟨a1.1, by rw [f4 h (by omega)]; exact a1.2.1, fun j hj => by rw [f4 _ (by omega)]; exact a1.2.2 j hj⟩, a2, ⟨by rw [f4 h (by omega)]; exact a3.1, by rw [f4 h (by omega)]; exact a3.2.1, by rw [f4 h (by omega)]; exact a3.2.2.1, fun z => by rw [f4 h (by omega)]; exact a3.2.2.2 z⟩, by rw [f4 h (by omega)]; exact a4, a5, ⟨by rw [T4.2.2.2.1]; exact b1, by rw [f42 2 (by decide)]; exact b2, by rw [f4 _ (by omega)]; exact b3, by rw [f42 4 (by decide)]; exact b4⟩, a7, by rw [f4 h (by omega)]; exact a8⟩
    have ch4 : mI N4 (h + 2) 4 = mI N2 (h + 2) 4 := by rw [f42 4 (by decide), ch3]
    refine ⟨((((hT.tr T1).tr e2.ct).tr T3).tr T4), Or.inl ⟨rfl, kind, times, p1, lv1, p2, lv2, p3, p', lv', f1, f2, ft, X1, X2, Xt, hnc, h1, h2, h3, h4, h5, h6, s4, ⟨by rw [← hN4, mI_sI, if_pos ⟨rfl, rfl⟩], by rw [T4.2.2.2.1]; exact n3⟩, g1, g2, gt, fun y z => ?_, fun z => ?_, ?_, ?_, ?_, ?_, ?_, ?_, fun k hk => ?_⟩⟩
    · have z : mI N4 (h + 2) 4 = 0 := z
      rw [ch4] at z
      obtain ⟨w1, w2⟩ := hi2 y z
      exact ⟨hi y (by rw [← ch1]; exact w1), w2⟩
    · show mI N4 (h + 2) 4 = 1
      rw [ch4]; exact hch2 (by rw [ch1]; exact hch z)
    · show mI N4 (h + 4) _ = _
      rw [f4 _ (by omega), kb _ (by omega), kk _ (by omega)]; exact c0
    · show mI N4 (h + 4) _ = _
      rw [f4 _ (by omega), kb _ (by omega), kk _ (by omega)]; exact c1
    · show mI N4 (h + 4) _ = _
      rw [f4 _ (by omega), kb _ (by omega), kk _ (by omega)]; exact c2
    · show mI N4 (h + 4) _ = _
      rw [f4 _ (by omega), kb _ (by omega), kk _ (by omega)]; exact c3
    · show mI N4 (h + 4) _ = _
      rw [f4 _ (by omega), kb _ (by omega)]; exact k4
    · show mI N4 (h + 4) _ = _
      rw [f4 _ (by omega)]; exact k5
    · show mI N4 (h + 4) _ = _
      rw [f4 _ (by omega), kb _ (by omega), kk _ (by omega)]; exact cc k hk
  refine So_bdM (skipWord_c (j := 23) s1' (by decide)) (fun r N2 hr => So_jn1 ?_)
  rcases hr with ⟨q1, q2, q3, q4, q5⟩ | ⟨q1, q2⟩
  · have q2 : r = 1 := q2
    have q4 : mI N2 (h + 2) = mI N1 (h + 2) := q4
    rw [q2, if_neg (by decide)]
    have hrt : RdT B L h o 0 (GX5_readTest 10) := rdT ho 10 0 (by decide) (by decide)
    unfold FX5_readTestR
    refine So_bdM (hrt N2 (tkE B L p3) lv2 (K ++ X1 ++ X2) (c + 1) q5) (fun r48 M47 hr48 => ?_)
    obtain ⟨e1, ⟨a, p', lv', Xt, f, b1, b2, b3, b4⟩ | ⟨a, pf, b1, b2⟩⟩ := hr48
    · have a : r48 = 1 := a
      rw [a, if_pos (by decide)]
      refine fin M47 Xt p' lv' (some f) (q3.tr e1) (b1.less (by omega)) (Or.inr ⟨f, rfl, ?_⟩) (Or.inr ⟨q1, f, rfl, b4⟩) (fun y z => ?_) (fun z => b3.1 (by rw [q4]; exact z))
      · simp only [List.length_append] at b2; exact b2
      · refine ⟨?_, fun g hg => by cases hg; exact b3.2 y z⟩
        rcases s1'.2.2.2.2.2.1.2.2.2 with zz | zz
        · exact zz
        · have := b3.1 (by rw [q4]; exact zz)
          have this : mI M47 (h + 2) 4 = 1 := this
          rw [z] at this; exact absurd this (by decide)
    · have a : r48 = 0 := a
      rw [a, if_neg (by decide)]
      exact So.ok ⟨(hT.tr T1).tr (q3.tr e1).ct, Or.inr ⟨rfl, pf, Or.inr ⟨hnc, kind, h1, h2, Or.inr ⟨p1, lv1, f1, h3, Or.inr ⟨p2, lv2, f2, h4, Or.inr ⟨times, p3, h5, q1, b2⟩⟩⟩⟩, b1.1⟩⟩
  · cases q2
    rw [if_pos rfl]
    exact fin N1 [] p3 lv2 none CE.rf (by simpa using s1') (Or.inl ⟨rfl, rfl⟩) (Or.inl ⟨q1, rfl, rfl, rfl⟩) (fun _ z => ⟨z, fun g hg => by cases hg⟩) (fun z => z)
