theorem law_ok {B : Nat → Nat} {L u p lv nc kind p1 lv1 p' lv' : Nat} {N : Mem} {C : List (Nat × Nat)} {f1 ft : Option Den} (h : RE B L u 0 N p lv C) (h21 : mI N u 21 = Int32.ofNat nc) (hnc : nc < 12) (hk : kind ≤ 6) (hw : isW B L p kind) (h1 : S1 B L 0 p lv kind p1 lv1 f1) (h4 : S4 B L 0 p1 lv1 p' lv' ft) : So (FX12_readLaw u N) (LGd B L u N nc C kind p' lv' f1 ft) := by
  refine law_head h h21 (by omega) (fun hb => ?_) (fun _ kind' hk' hw' N1 hN1 c3 => ?_)
  · rcases hb with z | z
    · omega
    · exact absurd hw (z kind (Or.inl ⟨rfl, hk⟩))
  obtain rfl := isW_inj hw hw' (by omega) (by omega)
  obtain ⟨m1, r1, a21, c0, cc⟩ := hN1
  unfold lawRest
  refine So_jn1 ?_
  have e6 : (Int32.ofNat kind = 6) ↔ kind = 6 := nn_eq (b := 6) (by omega) (by omega)
  rcases h1 with ⟨z6, rfl, rfl, rfl⟩ | ⟨n6, n9, f, rfl, hno, hS⟩
  · have k6 : kind = 6 := by omega
    rw [if_pos (e6.mpr k6)]
    exact law_mid (Y1 := []) hnc m1 (by simpa using r1) a21 (Or.inl ⟨rfl, rfl⟩) c0 c3 cc (Or.inl ⟨p', lv', ft, h4, fun N' hN => hN⟩)
  · rw [if_neg (fun z => n6 (e6.mp z))]
    refine So.bind (expr_sum r1 (hS u 0) hno) (fun M39 h39 => ?_)
    obtain ⟨p39, Y, r39, d39⟩ := h39
    have c39 : ∀ k, mI M39 (u + 10) k = mI N1 (u + 10) k := fun k => by rw [(p39.1 (u + 10) (by omega) (by omega) (by omega) (by omega) (by omega)).1]
    exact law_mid hnc (m1.tr (p39.ml (Or.inl rfl))) r39 (by rw [p39.2.1 21 (by decide)]; exact a21) (Or.inr ⟨f, rfl, d39.up (by decide)⟩) (by rw [c39]; exact c0) (by rw [c39]; exact c3) (fun k hk => by rw [c39]; exact cc k hk) (Or.inl ⟨p', lv', ft, h4, fun N' hN => hN⟩)
theorem law_bad {B : Nat → Nat} {L u p lv nc f : Nat} {N : Mem} {C : List (Nat × Nat)} (h : RE B L u 0 N p lv C) (h21 : mI N u 21 = Int32.ofNat nc) (hnc : nc ≤ 12) (hb : ClB B L 0 p lv nc f) : So (FX12_readLaw u N) (fun N' => ML u 10 N N' ∧ Bad u N' f) := by
  rcases hb with ⟨hb, rfl⟩ | ⟨hn, kind, hhd, hw, hb⟩
  · refine law_head h h21 hnc (fun _ N' a b => ⟨a, b⟩) (fun hn kind hk hw => ?_)
    rcases hb with z | z
    · omega
    · exact absurd hw (z kind (Or.inl ⟨rfl, hk⟩))
  · have hk : kind ≤ 6 := by rcases hhd with ⟨_, z⟩ | ⟨z, _⟩ <;> omega
    refine law_head h h21 hnc (fun hb => ?_) (fun _ kind' hk' hw' N1 hN1 c3 => ?_)
    · rcases hb with z | z
      · omega
      · exact absurd hw (z kind hhd)
    obtain rfl := isW_inj hw hw' (by omega) (by omega)
    obtain ⟨m1, r1, a21, c0, cc⟩ := hN1
    unfold lawRest
    refine So_jn1 ?_
    have e6 : (Int32.ofNat kind = 6) ↔ kind = 6 := nn_eq (b := 6) (by omega) (by omega)
    rcases hb with ⟨n6, n9, hF⟩ | ⟨p1, lv1, f1, h1, hb⟩
    · rw [if_neg (fun z => n6 (e6.mp z))]
      refine So.bind (expr_sumF r1 (hF u 0)) (fun M39 h39 => ?_)
      obtain ⟨p39, b39⟩ := h39
      have e4 : Int32.ofNat (8 * nc) + 4 = Int32.ofNat (8 * nc + 4) := nn_add (8 * nc) 4
      have e5 : Int32.ofNat (8 * nc) + 5 = Int32.ofNat (8 * nc + 5) := nn_add (8 * nc) 5
      have e6' : Int32.ofNat (8 * nc) + 6 = Int32.ofNat (8 * nc + 6) := nn_add (8 * nc) 6
      rw [e4, e5, e6', nn_ix (by omega), nn_ix (by omega), nn_ix (by omega)]
      refine So_gd (inb_nn (by omega) (by decide)) (So_nm (So_gd (inb_nn (by omega) (by decide)) (So_nm (So_jn1 ?_))))
      have x19 : ∀ (a : Int32) (b : Int32), mI (sI (sI M39 (u + 10) (8 * nc + 4) a) (u + 10) (8 * nc + 5) b) u 19 = 1 := fun a b => by rw [mI_sI, if_neg (by omega), mI_sI, if_neg (by omega)]; exact b39.1
      rw [x19, if_pos (by decide)]
      refine So_gd (inb_nn (by omega) (by decide)) (So_nm (So.ok ⟨((((m1.tr (p39.ml (Or.inl rfl))).tr (ML_c (by decide))).tr (ML_c (by decide))).tr (ML_c (by decide))), ?_, ?_⟩))
      · rw [mI_sI, if_neg (by omega)]; exact x19 _ _
      · rw [mI_sI, if_neg (by omega), mI_sI, if_neg (by omega), mI_sI, if_neg (by omega)]; exact b39.2
    · rcases hb with ⟨z, _⟩ | ⟨p2, lv2, f2, h2, hb⟩
      · omega
      rcases h2 with ⟨_, _, rfl, rfl, rfl⟩ | ⟨z, _⟩
      rotate_left
      · omega
      rcases hb with ⟨z, _⟩ | ⟨times, p3, h3, w23, hF⟩
      · omega
      rcases h3 with ⟨_, _, rfl⟩ | ⟨z, _⟩
      rotate_left
      · omega
      rcases h1 with ⟨z6, rfl, rfl, rfl⟩ | ⟨n6, n9, g, rfl, hno, hS⟩
      · have k6 : kind = 6 := by omega
        rw [if_pos (e6.mpr k6)]
        exact law_mid (Y1 := []) hn m1 (by simpa using r1) a21 (Or.inl ⟨rfl, rfl⟩) c0 c3 cc (Or.inr ⟨f, w23, hF, fun N' a b => ⟨a, b⟩⟩)
      · rw [if_neg (fun z => n6 (e6.mp z))]
        refine So.bind (expr_sum r1 (hS u 0) hno) (fun M39 h39 => ?_)
        obtain ⟨p39, Y, r39, d39⟩ := h39
        have c39 : ∀ k, mI M39 (u + 10) k = mI N1 (u + 10) k := fun k => by rw [(p39.1 (u + 10) (by omega) (by omega) (by omega) (by omega) (by omega)).1]
        exact law_mid (f1 := some g) hn (m1.tr (p39.ml (Or.inl rfl))) r39 (by rw [p39.2.1 21 (by decide)]; exact a21) (Or.inr ⟨g, rfl, d39.up (by decide)⟩) (by rw [c39]; exact c0) (by rw [c39]; exact c3) (fun k hk => by rw [c39]; exact cc k hk) (Or.inr ⟨f, w23, hF, fun N' a b => ⟨a, b⟩⟩)
/-! ===== what a text tells, clause by clause ===== -/
abbrev CI : Type := Nat × Nat × Option Den × Option Den × Option Den
def sgC (cd : Nat → Int32) (a b : Nat) (f : Option Den) : Prop := (f = none ∧ b = a) ∨ ∃ g X, f = some g ∧ b = a + X.length ∧ cC cd a X ∧ DC X a 20 g
def sgR (o : Nat) (co ca : Nat → Int32) (a b : Nat) (f : Option Den) : Prop := (f = none ∧ b = a) ∨ ∃ g X, f = some g ∧ b = a + X.length ∧ cR co ca a X ∧ DR o X a 20 g
theorem sgC.le {cd : Nat → Int32} {a b : Nat} {f : Option Den} (h : sgC cd a b f) : a ≤ b := by
  rcases h with ⟨_, z⟩ | ⟨g, X, _, z, _⟩ <;> omega
theorem sgR.le {o : Nat} {co ca : Nat → Int32} {a b : Nat} {f : Option Den} (h : sgR o co ca a b f) : a ≤ b := by
  rcases h with ⟨_, z⟩ | ⟨g, X, _, z, _⟩ <;> omega
theorem sgC.cg {cd cd' : Nat → Int32} {a b : Nat} {f : Option Den} (h : sgC cd a b f) (e : ∀ k, k < 2 * b → cd' k = cd k) : sgC cd' a b f := by
  rcases h with z | ⟨g, X, z1, z2, z3, z4⟩
  · exact Or.inl z
  · exact Or.inr ⟨g, X, z1, z2, fun i hi => by rw [e _ (by omega), e _ (by omega)]; exact z3 i hi, z4⟩
theorem sgR.cg {o : Nat} {co ca co' ca' : Nat → Int32} {a b : Nat} {f : Option Den} (h : sgR o co ca a b f) (e : ∀ k, k < b → co' k = co k ∧ ca' k = ca k) : sgR o co' ca' a b f := by
  rcases h with z | ⟨g, X, z1, z2, z3, z4⟩
  · exact Or.inl z
  · exact Or.inr ⟨g, X, z1, z2, fun i hi => by rw [(e _ (by omega)).1, (e _ (by omega)).2]; exact z3 i hi, z4⟩
def TxC (cd cl : Nat → Int32) (len n : Nat) (I : Nat → CI) : Prop := ∀ i, i < n → ∃ a1 a2 a3 a4, cl (6 * i) = Int32.ofNat (I i).1 ∧ cl (6 * i + 1) = Int32.ofNat (I i).2.1 ∧ cl (6 * i + 2) = Int32.ofNat (2 * a1) ∧ cl (6 * i + 3) = Int32.ofNat (2 * a2) ∧ cl (6 * i + 4) = Int32.ofNat (2 * a3) ∧ cl (6 * i + 5) = Int32.ofNat (2 * a4) ∧ a4 ≤ len ∧ sgC cd a1 a2 (I i).2.2.1 ∧ sgC cd a2 a3 (I i).2.2.2.1 ∧ sgC cd a3 a4 (I i).2.2.2.2
def TxL (co ca rl : Nat → Int32) (len n : Nat) (I : Nat → CI) : Prop := ∀ i, i < n → ∃ b1 b2 b3, rl (8 * i) = Int32.ofNat (I i).1 ∧ rl (8 * i + 3) = Int32.ofNat b1 ∧ rl (8 * i + 4) = Int32.ofNat b2 ∧ rl (8 * i + 5) = Int32.ofNat b2 ∧ rl (8 * i + 6) = Int32.ofNat b3 ∧ b3 ≤ len ∧ sgR 0 co ca b1 b2 (I i).2.2.1 ∧ sgR 0 co ca b2 b3 (I i).2.2.2.2
theorem TxC.cg {cd cl cd' cl' : Nat → Int32} {len len' n : Nat} {I : Nat → CI} (h : TxC cd cl len n I) (e1 : ∀ k, k < 2 * len → cd' k = cd k) (e2 : ∀ k, k < 6 * n → cl' k = cl k) (hl : len ≤ len') : TxC cd' cl' len' n I := by
  intro i hi
  obtain ⟨a1, a2, a3, a4, h1, h2, h3, h4, h5, h6, h7, h8, h9, h10⟩ := h i hi
  have l1 := h8.le
  have l2 := h9.le
  have l3 := h10.le
  refine ⟨a1, a2, a3, a4, ?_, ?_, ?_, ?_, ?_, ?_, by omega, h8.cg (fun k hk => e1 k (by omega)), h9.cg (fun k hk => e1 k (by omega)), h10.cg (fun k hk => e1 k (by omega))⟩
  all_goals (rw [e2 _ (by omega)]; assumption)
theorem TxL.cg {co ca rl co' ca' rl' : Nat → Int32} {len len' n : Nat} {I : Nat → CI} (h : TxL co ca rl len n I) (e1 : ∀ k, k < len → co' k = co k ∧ ca' k = ca k) (e2 : ∀ k, k < 8 * n → rl' k = rl k) (hl : len ≤ len') : TxL co' ca' rl' len' n I := by
  intro i hi
  obtain ⟨b1, b2, b3, h1, h2, h3, h4, h5, h6, h7, h8⟩ := h i hi
  have l1 := h7.le
  have l2 := h8.le
  refine ⟨b1, b2, b3, ?_, ?_, ?_, ?_, ?_, by omega, h7.cg (fun k hk => e1 k (by omega)), h8.cg (fun k hk => e1 k (by omega))⟩
  all_goals (rw [e2 _ (by omega)]; assumption)
theorem cC_agree {cd cd' : Nat → Int32} {K X : List (Nat × Nat)} (h1 : cC cd 0 K) (h2 : cC cd' 0 (K ++ X)) : ∀ k, k < 2 * K.length → cd' k = cd k := by
  intro k hk
  have a := h1 (k / 2) (by omega)
  have b := h2.l (k / 2) (by omega)
  simp only [Nat.zero_add] at a b
  rcases Nat.mod_two_eq_zero_or_one k with z | z
  · rw [show k = 2 * (k / 2) by omega, a.1, b.1]
  · rw [show k = 2 * (k / 2) + 1 by omega, a.2, b.2]
theorem lsP_agree {M N : Mem} {a b : Nat} {K X : List (Nat × Nat)} (h1 : lsP M a b K) (h2 : lsP N a b (K ++ X)) : ∀ k, k < K.length → mI N a k = mI M a k ∧ mI N b k = mI M b k := by
  intro k hk
  have x := h1 k hk
  have y := h2.pre k hk
  exact ⟨y.1.trans x.1.symm, y.2.trans x.2.symm⟩
theorem SgC.sg {cd : Nat → Int32} {K X Z : List (Nat × Nat)} {f : Option Den} (h : SgC X K.length f) (hc : cC cd 0 (K ++ X ++ Z)) : sgC cd K.length (K.length + X.length) f := by
  rcases h with ⟨z1, z2⟩ | ⟨g, z1, z2⟩
  · subst z2; exact Or.inl ⟨z1, rfl⟩
  · have := hc.l.r
    rw [Nat.zero_add] at this
    exact Or.inr ⟨g, X, z1, rfl, this, z2⟩
theorem SgR.sg {o : Nat} {M : Mem} {a b : Nat} {K X Z : List (Nat × Nat)} {f : Option Den} (h : SgR o X K.length f) (hc : lsP M a b (K ++ X ++ Z)) : sgR o (mI M a) (mI M b) K.length (K.length + X.length) f := by
  rcases h with ⟨z1, z2⟩ | ⟨g, z1, z2⟩
  · subst z2; exact Or.inl ⟨z1, rfl⟩
  · refine Or.inr ⟨g, X, z1, rfl, fun i hi => ?_, z2⟩
    have := hc.pre (K.length + i) (by rw [List.length_append]; omega)
    rw [gD_app_r] at this; exact this
