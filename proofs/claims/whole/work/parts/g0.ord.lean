/-! ===== the reference reads an order ===== -/
theorem number_re {B : Nat → Nat} {L u o p lv lo hi : Nat} {N : Mem} {C : List (Nat × Nat)} (h : RE B L u o N p lv C) (hhi : hi ≤ 1000) (hlo : lo ≤ 1000) : So (FX12_number u (Int64.ofNat lo) (Int64.ofNat hi) N) (fun r => PF u N r.2 ∧ ((tkK B L p = 2 ∧ lo ≤ tkN B L p ∧ tkN B L p ≤ hi ∧ r.1 = Int32.ofNat (tkN B L p) ∧ RE B L u o r.2 (tkE B L p) lv C) ∨ (¬ (tkK B L p = 2 ∧ lo ≤ tkN B L p ∧ tkN B L p ≤ hi) ∧ Bad u r.2 (tkS B L p)))) := by
  have hk4 : tkK B L p ≤ 3 := by unfold tkK; split; omega; split; omega; split <;> omega
  obtain ⟨t1, t2, t3, t4⟩ := h.2.2.1
  unfold FX12_number
  refine So_nm (So_jn1R (fun v => (v = 1 ∧ tkK B L p = 2 ∧ lo ≤ tkN B L p ∧ tkN B L p ≤ hi ∧ mJ N u 17 = Int64.ofNat (tkN B L p)) ∨ (v = 0 ∧ ¬ (tkK B L p = 2 ∧ lo ≤ tkN B L p ∧ tkN B L p ≤ hi))) (fun v hv => ?_) (fun j3 hj3 => So_jn0 ?_))
  · rcases hv with ⟨rfl, a1, a2, a3, a5⟩ | ⟨rfl, a1⟩
    · refine So.bind (must_re h 1) (fun N1 h1 => ?_)
      obtain ⟨p8, ⟨_, r8⟩ | ⟨z, _⟩⟩ := h1
      rotate_left
      · exact absurd z (by decide)
      refine So.ok ⟨p8, Or.inl ⟨a1, a2, a3, ?_, r8⟩⟩
      show (mJ N u 17).toInt32 = _
      rw [a5]
      apply Int32.toInt_inj.mp
      rw [Int64.toInt_toInt32, jn_int (by omega), nn_int (by omega), i_bm (by omega) (by omega)]
    · refine So.bind (must_re h 0) (fun N1 h1 => ?_)
      obtain ⟨p8, ⟨z, _⟩ | ⟨_, b8⟩⟩ := h1
      · exact absurd rfl z
      exact So.ok ⟨p8, Or.inr ⟨a1, b8⟩⟩
  · by_cases k2 : tkK B L p = 2
    · rw [t3, if_neg (fun z => z (by rw [k2]; rfl)), in_eq]
      obtain ⟨n, hn, e1, e2⟩ := t4.2.1 k2
      refine So.bindE rfl ?_
      rw [e1, jn_int (show n < 9223372036854775808 by omega), jn_int (show lo < 9223372036854775808 by omega), jn_int (show hi < 9223372036854775808 by omega)]
      by_cases c : lo ≤ n ∧ n ≤ hi
      · rw [if_pos (show ((lo : Int) ≤ (n : Int) ∧ (n : Int) ≤ (hi : Int)) by omega), if_neg (by decide)]
        have : n = tkN B L p := by omega
        exact hj3 _ (Or.inl ⟨rfl, k2, by omega, by omega, by rw [e1, this]⟩)
      · rw [if_neg (show ¬ ((lo : Int) ≤ (n : Int) ∧ (n : Int) ≤ (hi : Int)) by omega), if_pos rfl]
        exact hj3 _ (Or.inr ⟨rfl, fun z => by omega⟩)
    · rw [t3, if_pos (show ¬ Int32.ofNat (tkK B L p) = 2 from fun z => k2 ((nn_eq (b := 2) (by omega) (by omega)).mp z))]
      exact hj3 _ (Or.inr ⟨rfl, fun z => k2 z.1⟩)
/-- cells of an order but some -/
def Oc (u : Nat) (M N : Mem) (P : Nat → Prop) : Prop := ∀ k, ¬ P k → mI N (u + 40) k = mI M (u + 40) k
theorem Oc.tr {u : Nat} {M N K : Mem} {P : Nat → Prop} (h : Oc u M N P) (h2 : Oc u N K P) : Oc u M K P := fun k hk => (h2 k hk).trans (h k hk)
theorem Oc.up {u : Nat} {M N : Mem} {P Q : Nat → Prop} (h : Oc u M N P) (hq : ∀ k, P k → Q k) : Oc u M N Q := fun k hk => h k (fun z => hk (hq k z))
theorem Oc_s {u k : Nat} {M : Mem} {v : Int32} : Oc u M (sI M (u + 40) k v) (fun j => j = k) := fun j hj => mI_n2 hj
theorem PF.oc {u : Nat} {M N : Mem} {P : Nat → Prop} (h : PF u M N) : Oc u M N P := fun k _ => by rw [(h.1 (u + 40) (by omega) (by omega) (by omega) (by omega) (by omega)).1]
theorem Bad.oc {u k f : Nat} {M : Mem} {v : Int32} (h : Bad u M f) : Bad u (sI M (u + 40) k v) f := ⟨by rw [mI_n1 (by omega)]; exact h.1, by rw [mI_n1 (by omega)]; exact h.2⟩
/-- a sum -/
theorem readSum_ok {B : Nat → Nat} {L u p lv p1 lv1 at' : Nat} {M : Mem} {C : List (Nat × Nat)} {f : Den} (ha : at' + 1 < 96) (h : RE B L u 1 M p lv C) (hS : SmS B L 1 0 p lv 19 p1 lv1 f) : So (FX12_readSum u (Int32.ofNat at') M) (fun N => ML u 40 M N ∧ mI N u 21 = mI M u 21 ∧ Oc u M N (fun k => k = at' ∨ k = at' + 1) ∧ ∃ Y, RE B L u 1 N p1 lv1 (C ++ Y) ∧ DR 1 Y C.length 20 f ∧ mI N (u + 40) at' = Int32.ofNat C.length ∧ mI N (u + 40) (at' + 1) = Int32.ofNat (C.length + Y.length)) := by
  unfold FX12_readSum
  rw [nn_ix (by omega), s1, nn_ix (by omega), h.2.2.2.2.2.2.1]
  refine So_gd (inb_nn (by omega) (by decide)) (So_nm (So_jn1 ?_))
  have r1 : RE B L u 1 (sI M (u + 40) at' (Int32.ofNat C.length)) p lv C := h.mark (Or.inr rfl)
  rw [r1.2.2.2.1, if_neg (by decide)]
  refine So.bind (expr_sum r1 (hS.2 u 0) hS.1) (fun N hN => ?_)
  obtain ⟨p2, Y, r2, d2⟩ := hN
  have l2 : mI N u 23 = Int32.ofNat (C.length + Y.length) := by have := r2.2.2.2.2.2.2.1; rwa [List.length_append] at this
  show So (gd (inb (Int32.ofNat (at' + 1)) 96) (nm (sI N (u + 40) (at' + 1) (mI N u 23)) fun M8 => some M8)) _
  rw [l2]
  have m21 : mI N u 21 = mI M u 21 := by rw [p2.2.1 21 (by decide), mI_n1 (by omega)]
  have m40 : ∀ k, mI N (u + 40) k = mI (sI M (u + 40) at' (Int32.ofNat C.length)) (u + 40) k := fun k => by rw [(p2.1 (u + 40) (by omega) (by omega) (by omega) (by omega) (by omega)).1]
  refine So_gd (inb_nn (by omega) (by decide)) (So_nm (So.ok ⟨((ML_c (by decide)).tr (p2.ml (Or.inr (by decide)))).tr (ML_c (by decide)), by rw [mI_n1 (by omega)]; exact m21, fun k hk => ?_, Y, r2.mark (Or.inr rfl), d2.up (by decide), ?_, mI_e⟩))
  · rw [mI_n2 (fun z => hk (Or.inr z)), m40, mI_n2 (fun z => hk (Or.inl z))]
  · rw [mI_n2 (by omega), m40, mI_e]
theorem readSum_F {B : Nat → Nat} {L u p lv at' f : Nat} {M : Mem} {C : List (Nat × Nat)} (ha : at' + 1 < 96) (h : RE B L u 1 M p lv C) (hS : SmF B L 1 0 p lv f) : So (FX12_readSum u (Int32.ofNat at') M) (fun N => ML u 40 M N ∧ Bad u N f) := by
  unfold FX12_readSum
  rw [nn_ix (by omega), s1, nn_ix (by omega)]
  refine So_gd (inb_nn (by omega) (by decide)) (So_nm (So_jn1 ?_))
  have r1 : RE B L u 1 (sI M (u + 40) at' (mI M u 23)) p lv C := h.mark (Or.inr rfl)
  rw [r1.2.2.2.1, if_neg (by decide)]
  refine So.bind (expr_sumF r1 (hS u 0)) (fun N hN => So_gd (inb_nn (by omega) (by decide)) (So_nm (So.ok ⟨((ML_c (by decide)).tr (hN.1.ml (Or.inr (by decide)))).tr (ML_c (by decide)), hN.2.oc⟩)))
theorem readSum_B {u at' f : Nat} {M : Mem} (ha : at' + 1 < 96) (h : Bad u M f) : So (FX12_readSum u (Int32.ofNat at') M) (fun N => ML u 40 M N ∧ Bad u N f) := by
  unfold FX12_readSum
  rw [nn_ix (by omega), s1, nn_ix (by omega)]
  refine So_gd (inb_nn (by omega) (by decide)) (So_nm (So_jn1 ?_))
  rw [show mI (sI M (u + 40) at' (mI M u 23)) u 19 = 1 by rw [mI_n1 (by omega)]; exact h.1, if_pos (by decide)]
  exact So_gd (inb_nn (by omega) (by decide)) (So_nm (So.ok ⟨(ML_c (by decide)).tr (ML_c (by decide)), h.oc.oc⟩))
/-- the test -/
def ordC (t : Nat) (v9 : Int32) (M27 : Mem) : Option Mem :=
  gd (inb (v9 + 5) 96) <|
  nm (sI M27 (t + 40) (ix (v9 + 5)) (mI M27 t 23)) fun M31 =>
  jn1 (fun (M33 : Mem) =>
    gd (inb (v9 + 6) 96) <|
    nm (sI M33 (t + 40) (ix (v9 + 6)) (mI M33 t 23)) fun M37 =>
    some M37) fun j34 =>
  if ¬ (mI M31 t 19) = 0 then
    j34 M31
  else
  (FX12_isWord t 294 M31).bind fun r39 =>
  if r39 = 0 then
    j34 M31
  else
  (FX12_next t M31).bind fun M40 =>
  (FX12_readExpression t 1 M40).bind fun M41 =>
  j34 M41
theorem ordC_ok {B : Nat → Nat} {L u p3 lv2 p' lv' nc : Nat} {M : Mem} {C : List (Nat × Nat)} {ft : Option Den} (hn : nc < 12) (h : RE B L u 1 M p3 lv2 C) (hS : S4 B L 1 p3 lv2 p' lv' ft) : So (ordC u (Int32.ofNat (8 * nc)) M) (fun N => ML u 40 M N ∧ mI N u 21 = mI M u 21 ∧ Oc u M N (fun k => k = 8 * nc + 5 ∨ k = 8 * nc + 6) ∧ ∃ Y, RE B L u 1 N p' lv' (C ++ Y) ∧ SgR 1 Y C.length ft ∧ mI N (u + 40) (8 * nc + 5) = Int32.ofNat C.length ∧ mI N (u + 40) (8 * nc + 6) = Int32.ofNat (C.length + Y.length)) := by
  unfold ordC
  have e5 : Int32.ofNat (8 * nc) + 5 = Int32.ofNat (8 * nc + 5) := nn_add (8 * nc) 5
  have e6 : Int32.ofNat (8 * nc) + 6 = Int32.ofNat (8 * nc + 6) := nn_add (8 * nc) 6
  rw [e5, e6, nn_ix (by omega), nn_ix (by omega), h.2.2.2.2.2.2.1]
  refine So_gd (inb_nn (by omega) (by decide)) (So_nm (So_jn1 ?_))
  have r1 : RE B L u 1 (sI M (u + 40) (8 * nc + 5) (Int32.ofNat C.length)) p3 lv2 C := h.mark (Or.inr rfl)
  have m1 : ML u 40 M (sI M (u + 40) (8 * nc + 5) (Int32.ofNat C.length)) := ML_c (by decide)
  have c5 : mI (sI M (u + 40) (8 * nc + 5) (Int32.ofNat C.length)) (u + 40) (8 * nc + 5) = Int32.ofNat C.length := mI_e
  have oc1 : Oc u M (sI M (u + 40) (8 * nc + 5) (Int32.ofNat C.length)) (fun k => k = 8 * nc + 5) := Oc_s
  have m21 : mI (sI M (u + 40) (8 * nc + 5) (Int32.ofNat C.length)) u 21 = mI M u 21 := by rw [mI_n1 (by omega)]
  generalize sI M (u + 40) (8 * nc + 5) (Int32.ofNat C.length) = M1 at r1 m1 c5 oc1 m21
  have fin : ∀ (K : Mem) (Y : List (Nat × Nat)), PF u M1 K → RE B L u 1 K p' lv' (C ++ Y) → SgR 1 Y C.length ft → So (gd (inb (Int32.ofNat (8 * nc + 6)) 96) <| nm (sI K (u + 40) (8 * nc + 6) (mI K u 23)) fun M34 => some M34) (fun N => ML u 40 M N ∧ mI N u 21 = mI M u 21 ∧ Oc u M N (fun k => k = 8 * nc + 5 ∨ k = 8 * nc + 6) ∧ ∃ Y, RE B L u 1 N p' lv' (C ++ Y) ∧ SgR 1 Y C.length ft ∧ mI N (u + 40) (8 * nc + 5) = Int32.ofNat C.length ∧ mI N (u + 40) (8 * nc + 6) = Int32.ofNat (C.length + Y.length)) := fun K Y pK rK sK => by
    have l3 : mI K u 23 = Int32.ofNat (C.length + Y.length) := by have := rK.2.2.2.2.2.2.1; rwa [List.length_append] at this
    rw [l3]
    have cK : ∀ k, mI K (u + 40) k = mI M1 (u + 40) k := fun k => by rw [(pK.1 (u + 40) (by omega) (by omega) (by omega) (by omega) (by omega)).1]
    refine So_gd (inb_nn (by omega) (by decide)) (So_nm (So.ok ⟨(m1.tr (pK.ml (Or.inr (by decide)))).tr (ML_c (by decide)), ?_, fun k hk => ?_, Y, rK.mark (Or.inr rfl), sK, ?_, mI_e⟩))
    · rw [mI_n1 (by omega), pK.2.1 21 (by decide), m21]
    · rw [mI_n2 (fun z => hk (Or.inr z)), cK, oc1 k (fun z => hk (Or.inl z))]
    · rw [mI_n2 (by omega), cK, c5]
  rw [r1.2.2.2.1, if_neg (by decide)]
  obtain ⟨v23, e23, s23⟩ := isWord_r (j := 23) (c := 294) r1.2.2.1 (by decide) (by decide +kernel)
  rw [e23]
  refine So.bindE rfl ?_
  rcases hS with ⟨n23, rfl, rfl, rfl⟩ | ⟨w23, f, rfl, hTB, n26, n27, hS⟩
  · rcases s23 with ⟨_, z⟩ | ⟨rfl, _⟩
    · exact absurd z n23
    rw [if_pos rfl]
    exact fin M1 [] PF.rf (by simpa using r1) (Or.inl ⟨rfl, rfl⟩)
  · rcases s23 with ⟨rfl, _⟩ | ⟨_, z⟩
    · rw [if_neg (by decide)]
      refine So.bind (next_re r1) (fun M37 h37 => So.bind (expr_test h37.2 (hS u) n26 n27) (fun M38 h38 => ?_))
      obtain ⟨p38, Yt, r38, d38⟩ := h38
      exact fin M38 Yt (h37.1.tr p38) r38 (Or.inr ⟨f, rfl, d38⟩)
    · exact absurd w23 z
theorem ordC_F {B : Nat → Nat} {L u p3 lv2 nc f : Nat} {M : Mem} {C : List (Nat × Nat)} (hn : nc < 12) (h : RE B L u 1 M p3 lv2 C) (hw : isW B L p3 23) (hF : TsF B L 1 0 (tkE B L p3) lv2 f) : So (ordC u (Int32.ofNat (8 * nc)) M) (fun N => ML u 40 M N ∧ Bad u N f) := by
  unfold ordC
  have e5 : Int32.ofNat (8 * nc) + 5 = Int32.ofNat (8 * nc + 5) := nn_add (8 * nc) 5
  have e6 : Int32.ofNat (8 * nc) + 6 = Int32.ofNat (8 * nc + 6) := nn_add (8 * nc) 6
  rw [e5, e6, nn_ix (by omega), nn_ix (by omega)]
  refine So_gd (inb_nn (by omega) (by decide)) (So_nm (So_jn1 ?_))
  have r1 : RE B L u 1 (sI M (u + 40) (8 * nc + 5) (mI M u 23)) p3 lv2 C := h.mark (Or.inr rfl)
  rw [r1.2.2.2.1, if_neg (by decide)]
  obtain ⟨v23, e23, s23⟩ := isWord_r (j := 23) (c := 294) r1.2.2.1 (by decide) (by decide +kernel)
  rw [e23]
  refine So.bindE rfl ?_
  rcases s23 with ⟨rfl, _⟩ | ⟨_, z⟩
  · rw [if_neg (by decide)]
    refine So.bind (next_re r1) (fun M37 h37 => So.bind (expr_testF h37.2 (hF u)) (fun M38 h38 => So_gd (inb_nn (by omega) (by decide)) (So_nm (So.ok ⟨((ML_c (by decide)).tr ((h37.1.tr h38.1).ml (Or.inr (by decide)))).tr (ML_c (by decide)), h38.2.oc⟩))))
  · exact absurd hw z
theorem ordC_B {u nc f : Nat} {M : Mem} (hn : nc < 12) (h : Bad u M f) : So (ordC u (Int32.ofNat (8 * nc)) M) (fun N => ML u 40 M N ∧ Bad u N f) := by
  unfold ordC
  have e5 : Int32.ofNat (8 * nc) + 5 = Int32.ofNat (8 * nc + 5) := nn_add (8 * nc) 5
  have e6 : Int32.ofNat (8 * nc) + 6 = Int32.ofNat (8 * nc + 6) := nn_add (8 * nc) 6
  rw [e5, e6, nn_ix (by omega), nn_ix (by omega)]
  refine So_gd (inb_nn (by omega) (by decide)) (So_nm (So_jn1 ?_))
  rw [show mI (sI M (u + 40) (8 * nc + 5) (mI M u 23)) u 19 = 1 by rw [mI_n1 (by omega)]; exact h.1, if_pos (by decide)]
  exact So_gd (inb_nn (by omega) (by decide)) (So_nm (So.ok ⟨(ML_c (by decide)).tr (ML_c (by decide)), h.oc.oc⟩))
/-- how often -/
def ordB (t : Nat) (v9 : Int32) (M21 : Mem) : Option Mem :=
  gd (inb (v9 + 7) 96) <|
  nm (sI M21 (t + 40) (ix (v9 + 7)) 1) fun M25 =>
  jn1 (fun (M27 : Mem) => ordC t v9 M27) fun j28 =>
  if ¬ (mI M25 t 19) = 0 then
    j28 M25
  else
  (FX12_isWord t 21279923 M25).bind fun r42 =>
  if r42 = 0 then
    j28 M25
  else
  (FX12_next t M25).bind fun M43 =>
  bdM (FX12_number t 1 20 M43) fun r46 M45 =>
  gd (inb (v9 + 7) 96) <|
  nm (sI M45 (t + 40) (ix (v9 + 7)) r46) fun M47 =>
  j28 M47
theorem ordB_ok {B : Nat → Nat} {L u p2 p3 lv2 p' lv' nc times : Nat} {M : Mem} {C : List (Nat × Nat)} {ft : Option Den} (hn : nc < 12) (h : RE B L u 1 M p2 lv2 C) (h3 : S3 B L 1 p2 times p3) (hS : (S4 B L 1 p3 lv2 p' lv' ft)) : So (ordB u (Int32.ofNat (8 * nc)) M) (fun N => ML u 40 M N ∧ mI N u 21 = mI M u 21 ∧ Oc u M N (fun k => k = 8 * nc + 5 ∨ k = 8 * nc + 6 ∨ k = 8 * nc + 7) ∧ ∃ Y, RE B L u 1 N p' lv' (C ++ Y) ∧ SgR 1 Y C.length ft ∧ mI N (u + 40) (8 * nc + 5) = Int32.ofNat C.length ∧ mI N (u + 40) (8 * nc + 6) = Int32.ofNat (C.length + Y.length) ∧ mI N (u + 40) (8 * nc + 7) = Int32.ofNat times) := by
  unfold ordB
  have e7 : Int32.ofNat (8 * nc) + 7 = Int32.ofNat (8 * nc + 7) := nn_add (8 * nc) 7
  rw [e7, nn_ix (by omega)]
  refine So_gd (inb_nn (by omega) (by decide)) (So_nm (So_jn1 ?_))
  have r1 : RE B L u 1 (sI M (u + 40) (8 * nc + 7) 1) p2 lv2 C := h.mark (Or.inr rfl)
  have fin : ∀ (K : Mem), ML u 40 M K → mI K u 21 = mI M u 21 → Oc u M K (fun k => k = 8 * nc + 7) → mI K (u + 40) (8 * nc + 7) = Int32.ofNat times → RE B L u 1 K p3 lv2 C → So (ordC u (Int32.ofNat (8 * nc)) K) (fun N => ML u 40 M N ∧ mI N u 21 = mI M u 21 ∧ Oc u M N (fun k => k = 8 * nc + 5 ∨ k = 8 * nc + 6 ∨ k = 8 * nc + 7) ∧ ∃ Y, RE B L u 1 N p' lv' (C ++ Y) ∧ SgR 1 Y C.length ft ∧ mI N (u + 40) (8 * nc + 5) = Int32.ofNat C.length ∧ mI N (u + 40) (8 * nc + 6) = Int32.ofNat (C.length + Y.length) ∧ mI N (u + 40) (8 * nc + 7) = Int32.ofNat times) := fun K k1 k2 k3 k4 k5 => (ordC_ok hn k5 hS).mono (fun N hN => by
    obtain ⟨a1, a2, a3, Y, a4, a5, a6, a7⟩ := hN
    exact ⟨k1.tr a1, a2.trans k2, (k3.up (fun k hk => by omega)).tr (a3.up (fun k hk => by omega)), Y, a4, a5, a6, a7, by rw [a3 (8 * nc + 7) (by omega)]; exact k4⟩)
  rw [r1.2.2.2.1, if_neg (by decide)]
  obtain ⟨v, e, s⟩ := isWord_r (j := 24) (c := 21279923) r1.2.2.1 (by decide) (by decide +kernel)
  rw [e]
  refine So.bindE rfl ?_
  rcases h3 with ⟨n24, rfl, rfl⟩ | ⟨_, w24, t1, t2, t3, rfl, rfl⟩
  · have n24 := n24.resolve_left (by decide)
    rcases s with ⟨_, z⟩ | ⟨rfl, _⟩
    · exact absurd z n24
    rw [if_pos rfl]
    exact fin _ (ML_c (by decide)) (by rw [mI_n1 (by omega)]) Oc_s mI_e r1
  · rcases s with ⟨rfl, _⟩ | ⟨_, z⟩
    · rw [if_neg (by decide)]
      refine So.bind (next_re r1) (fun M43 h43 => So_bdM (show So (FX12_number u 1 20 M43) _ from number_re (lo := 1) (hi := 20) h43.2 (by decide) (by decide)) (fun v M45 h45 => ?_))
      obtain ⟨p45, ⟨_, _, _, v1, r45⟩ | ⟨z, _⟩⟩ := h45
      rotate_left
      · exact absurd ⟨t1, t2, t3⟩ z
      have p45 : PF u M43 M45 := p45
      have v1 : v = _ := v1
      have pp := h43.1.tr p45
      have c45 : ∀ k, mI M45 (u + 40) k = mI (sI M (u + 40) (8 * nc + 7) 1) (u + 40) k := fun k => by rw [(pp.1 (u + 40) (by omega) (by omega) (by omega) (by omega) (by omega)).1]
      refine So_gd (inb_nn (by omega) (by decide)) (So_nm (fin _ (((ML_c (by decide)).tr (pp.ml (Or.inr (by decide)))).tr (ML_c (by decide))) ?_ (fun k hk => ?_) (by rw [mI_e, v1]) (r45.mark (Or.inr rfl))))
      · rw [mI_n1 (by omega), pp.2.1 21 (by decide), mI_n1 (by omega)]
      · rw [mI_n2 hk, c45, mI_n2 hk]
    · exact absurd w24 z
theorem ordB_B {u nc f : Nat} {M : Mem} (hn : nc < 12) (h : Bad u M f) : So (ordB u (Int32.ofNat (8 * nc)) M) (fun N => ML u 40 M N ∧ Bad u N f) := by
  unfold ordB
  have e7 : Int32.ofNat (8 * nc) + 7 = Int32.ofNat (8 * nc + 7) := nn_add (8 * nc) 7
  rw [e7, nn_ix (by omega)]
  refine So_gd (inb_nn (by omega) (by decide)) (So_nm (So_jn1 ?_))
  rw [show mI (sI M (u + 40) (8 * nc + 7) 1) u 19 = 1 by rw [mI_n1 (by omega)]; exact h.1, if_pos (by decide)]
  exact (ordC_B hn h.oc).mono (fun N hN => ⟨(ML_c (by decide)).tr hN.1, hN.2⟩)
/-- it fails behind the sums -/
theorem ordB_F {B : Nat → Nat} {L u p2 lv2 nc f : Nat} {M : Mem} {C : List (Nat × Nat)} (hn : nc < 12) (h : RE B L u 1 M p2 lv2 C) (hb : (isW B L p2 24 ∧ ¬ (tkK B L (tkE B L p2) = 2 ∧ 1 ≤ tkN B L (tkE B L p2) ∧ tkN B L (tkE B L p2) ≤ 20) ∧ f = tkS B L (tkE B L p2)) ∨ ∃ times p3, S3 B L 1 p2 times p3 ∧ isW B L p3 23 ∧ TsF B L 1 0 (tkE B L p3) lv2 f) : So (ordB u (Int32.ofNat (8 * nc)) M) (fun N => ML u 40 M N ∧ Bad u N f) := by
  unfold ordB
  have e7 : Int32.ofNat (8 * nc) + 7 = Int32.ofNat (8 * nc + 7) := nn_add (8 * nc) 7
  rw [e7, nn_ix (by omega)]
  refine So_gd (inb_nn (by omega) (by decide)) (So_nm (So_jn1 ?_))
  have r1 : RE B L u 1 (sI M (u + 40) (8 * nc + 7) 1) p2 lv2 C := h.mark (Or.inr rfl)
  rw [r1.2.2.2.1, if_neg (by decide)]
  obtain ⟨v, e, s⟩ := isWord_r (j := 24) (c := 21279923) r1.2.2.1 (by decide) (by decide +kernel)
  rw [e]
  refine So.bindE rfl ?_
  by_cases w : isW B L p2 24
  · rcases s with ⟨rfl, _⟩ | ⟨_, z⟩
    rotate_left
    · exact absurd w z
    rw [if_neg (by decide)]
    refine So.bind (next_re r1) (fun M43 h43 => So_bdM (show So (FX12_number u 1 20 M43) _ from number_re (lo := 1) (hi := 20) h43.2 (by decide) (by decide)) (fun v M45 h45 => So_gd (inb_nn (by omega) (by decide)) (So_nm ?_)))
    obtain ⟨p45, q45⟩ := h45
    have p45 : PF u M43 M45 := p45
    have mm : ML u 40 M (sI M45 (u + 40) (8 * nc + 7) v) := (((ML_c (by decide)).tr ((h43.1.tr p45).ml (Or.inr (by decide)))).tr (ML_c (by decide)))
    rcases q45 with ⟨a1, a2, a3, a4, a5⟩ | ⟨a1, a2⟩
    · rcases hb with ⟨_, z, _⟩ | ⟨times, p3, h3, w23, hF⟩
      · exact absurd ⟨a1, a2, a3⟩ z
      · rcases h3 with ⟨z, _⟩ | ⟨_, _, _, _, _, rfl, rfl⟩
        · exact absurd w (z.resolve_left (by decide))
        · have a5 : RE B L u 1 M45 (tkE B L (tkE B L p2)) lv2 C := a5
          exact (ordC_F hn (a5.mark (Or.inr rfl)) w23 hF).mono (fun N hN => ⟨mm.tr hN.1, hN.2⟩)
    · rcases hb with ⟨_, _, rfl⟩ | ⟨times, p3, h3, _⟩
      · have a2 : Bad u M45 _ := a2
        exact (ordC_B hn a2.oc).mono (fun N hN => ⟨mm.tr hN.1, hN.2⟩)
      · rcases h3 with ⟨z, _⟩ | ⟨_, _, b1, b2, b3, _⟩
        · exact absurd w (z.resolve_left (by decide))
        · exact absurd ⟨b1, b2, b3⟩ a1
  · rcases s with ⟨_, z⟩ | ⟨rfl, _⟩
    · exact absurd z w
    rw [if_pos rfl]
    rcases hb with ⟨z, _⟩ | ⟨times, p3, h3, w23, hF⟩
    · exact absurd z w
    · rcases h3 with ⟨_, rfl, rfl⟩ | ⟨_, z, _⟩
      · exact (ordC_F hn r1 w23 hF).mono (fun N hN => ⟨(ML_c (by decide)).tr hN.1, hN.2⟩)
      · exact absurd z w
