/-! ===== what a clause tells ===== -/
def dV (f : Option Den) (tl : Int32 → Int32) : Option Int64 := match f with
  | none => some 0
  | some g => g tl
def dT (f : Option Den) (tl : Int32 → Int32) : Bool := match f with
  | none => true
  | some g => match g tl with
    | none => false
    | some v => decide (v ≠ 0)
def hI (ci : CI) (tl : Int32 → Int32) : Option Int64 := if dT ci.2.2.2.2 tl = true then (dV ci.2.2.1 tl).bind (fun v => (dV ci.2.2.2.1 tl).map (fun _ => v)) else none
theorem wk_end {sz n hi : Nat} {cd : Nat → Int32} {tl : Int32 → Int32} {s : List Int64} : wkP sz cd tl (Int32.ofNat hi) n (Int32.ofNat hi) s = some (top s) := by
  cases n with
  | zero => rfl
  | succ n => unfold wkP; rw [if_pos (Or.inr (Or.inl (Int32.le_refl _)))]
theorem evC {cd : Nat → Int32} {a b sz : Nat} {f : Option Den} {tl : Int32 → Int32} (h : sgC cd a b f) (h1 : 2 * b ≤ sz) (h2 : sz ≤ 800) : wkP sz cd tl (Int32.ofNat (2 * b)) 400 (Int32.ofNat (2 * a)) [] = dV f tl := by
  rcases h with ⟨rfl, rfl⟩ | ⟨g, X, rfl, rfl, hc, hd⟩
  · rw [wk_end]; rfl
  · obtain ⟨n', _, e⟩ := hd.2 cd sz (2 * (a + X.length)) tl [] (400 - X.length) hc (Nat.le_refl _) h1 h2 (by simp)
    rw [show 400 - X.length + X.length = 400 by omega] at e
    rw [e]
    show (g tl).bind _ = g tl
    cases g tl with
    | none => rfl
    | some v => show wkP _ _ _ _ _ _ _ = _; rw [wk_end]; rfl
theorem DC_ne {X : List (Nat × Nat)} {a d : Nat} {f : Den} (h : DC X a d f) (ha : a ≤ 400) (hd : d ≤ 31) : 0 < X.length := by
  apply Nat.pos_of_ne_zero
  intro z
  have : X = [] := List.length_eq_zero_iff.mp z
  subst this
  obtain ⟨n1, _, e1⟩ := h.2 (fun _ => 0) 800 (2 * a) (fun _ => 0) [] 0 (fun i hi => absurd hi (by simp)) (by simp) (by omega) (by omega) (by simp only [List.length_nil]; omega)
  obtain ⟨n2, _, e2⟩ := h.2 (fun _ => 0) 800 (2 * a) (fun _ => 0) [1] 0 (fun i hi => absurd hi (by simp)) (by simp) (by omega) (by omega) (by simp only [List.length_cons, List.length_nil]; omega)
  simp only [List.length_nil, Nat.add_zero, wk_end] at e1 e2
  cases hf : f (fun _ => 0) with
  | none => rw [hf] at e1; cases e1
  | some v =>
    rw [hf] at e1 e2
    simp only [Option.bind, top, List.getD_cons_zero, List.getD_nil] at e1 e2
    have a1 := Option.some.inj e1
    have a2 := Option.some.inj e2
    rw [← a1] at a2
    exact absurd a2 (by decide)
theorem DR_ne {o : Nat} {X : List (Nat × Nat)} {a d : Nat} {f : Den} {lv : Int32 → Int32 → Int64} {tl : Int32 → Int32} (h : DR o X a d f) (hd : d ≤ 400) (hc : Cmp o lv tl) : 0 < X.length := by
  apply Nat.pos_of_ne_zero
  intro z
  have : X = [] := List.length_eq_zero_iff.mp z
  subst this
  obtain ⟨n1, g1, e1⟩ := h.2 (fun _ => 0) (fun _ => 0) a lv tl [] 1 (fun i hi => absurd hi (by simp)) (by simp) (by simpa using hd) hc
  simp only [List.length_nil, Nat.add_zero] at e1
  have x1 : rcP (fun _ => 0) (fun _ => 0) lv a 1 a [] = some (some []) := by unfold rcP; rw [if_pos (Nat.le_refl _)]
  rw [x1] at e1
  cases hf : f tl with
  | none => rw [hf] at e1; exact absurd e1 (by simp [Option.elim])
  | some v =>
    rw [hf] at e1
    have x2 : rcP (fun _ => 0) (fun _ => 0) lv a n1 a [v] = some (some [v]) := by
      cases n1 with
      | zero => omega
      | succ n => unfold rcP; rw [if_pos (Nat.le_refl _)]
    simp only [Option.elim] at e1
    rw [x2] at e1
    simp at e1
/-! the class -/
def SmE (t : Nat) (M N : Mem) : Prop := Eo (fun q => q = t ∨ q = t + 2) M N ∧ (∀ k, k ∉ ([2, 3, 4, 5] : List Nat) → mI N t k = mI M t k) ∧ mJ N t = mJ M t ∧ mR N t = mR M t ∧ mN N t = mN M t ∧ mI N (t + 2) = mI M (t + 2) ∧ mR N (t + 2) = mR M (t + 2) ∧ mN N (t + 2) = mN M (t + 2)
theorem SmE.rf {t : Nat} {M : Mem} : SmE t M M := ⟨Eo.rf, fun _ _ => rfl, rfl, rfl, rfl, rfl, rfl, rfl⟩
theorem SmE.tr {t : Nat} {M N K : Mem} (a : SmE t M N) (b : SmE t N K) : SmE t M K := ⟨a.1.tr b.1, fun k hk => (b.2.1 k hk).trans (a.2.1 k hk), b.2.2.1.trans a.2.2.1, b.2.2.2.1.trans a.2.2.2.1, b.2.2.2.2.1.trans a.2.2.2.2.1, b.2.2.2.2.2.1.trans a.2.2.2.2.2.1, b.2.2.2.2.2.2.1.trans a.2.2.2.2.2.2.1, b.2.2.2.2.2.2.2.trans a.2.2.2.2.2.2.2⟩
theorem SmE_s {t k : Nat} {M : Mem} {v : Int32} (hk : k ∈ ([2, 3, 4, 5] : List Nat)) : SmE t M (sI M t k v) := ⟨Eo_sI (Or.inl rfl), fun j hj => by rw [mI_sI, if_neg (fun z : t = t ∧ j = k => hj (by rw [z.2]; exact hk))], rfl, rfl, rfl, funext fun j => by rw [mI_sI, if_neg (by omega)], rfl, rfl⟩
theorem WkE.sm {t : Nat} {M N : Mem} (h : WkE t (sI M t 5 (mI N t 5)) N) : SmE t M N := (SmE_s (v := mI N t 5) (by decide)).tr ⟨h.1, fun k hk => h.2.1 k (fun z => hk (by rw [z]; decide)), h.2.2.1, h.2.2.2.1, h.2.2.2.2.1, h.2.2.2.2.2.1, h.2.2.2.2.2.2.1, h.2.2.2.2.2.2.2⟩
/-- a text that was read -/
def TXT (M : Mem) (c n len : Nat) (I : Nat → CI) : Prop := n ≤ 12 ∧ len ≤ 400 ∧ 2 * len ≤ mN M (c + 1) ∧ mN M (c + 1) ≤ 800 ∧ 6 * n ≤ mN M (c + 2) ∧ mN M (c + 2) ≤ 72 ∧ TxC (mI M (c + 1)) (mI M (c + 2)) len n I ∧ ∀ i, i < n → TBO (I i).2.2.2.2
theorem TXT.keep {M N : Mem} {c n len : Nat} {I : Nat → CI} (h : TXT M c n len I) (e1 : Ea M N (c + 1)) (e2 : Ea M N (c + 2)) : TXT N c n len I := by
  unfold TXT
  rw [e1.1, e1.2.2.2, e2.1, e2.2.2.2]; exact h
theorem at_so {M : Mem} {c i col : Nat} (h1 : 6 * i + col < mN M (c + 2)) (h2 : mN M (c + 2) ≤ 72) : FX9_at c (Int32.ofNat i) (Int32.ofNat col) M = some (mI M (c + 2) (6 * i + col)) := by
  apply So.eq
  unfold FX9_at
  have e : Int32.ofNat i * 6 + Int32.ofNat col = Int32.ofNat (6 * i + col) := by
    rw [show (6 : Int32) = Int32.ofNat 6 from rfl, nn_mul, nn_add, Nat.mul_comm]
  refine So_nm (So_jn1 (So_jn0 ?_))
  rw [e, if_neg (show ¬ Int32.ofNat (6 * i + col) < 0 by rw [Int32.lt_iff_toInt_lt, nn_int (by omega), show (0 : Int32).toInt = 0 from rfl]; omega), if_neg (nle h1 (by omega)), nn_ix (by omega)]
  exact So_gd (inb_nn h1 (by omega)) (So.ok rfl)
theorem work_so {t c a b : Nat} {f : Option Den} {M : Mem} (hc : c + 1 ≠ t ∧ c + 1 ≠ t + 2) (h : sgC (mI M (c + 1)) a b f) (h1 : 2 * b ≤ mN M (c + 1)) (h2 : mN M (c + 1) ≤ 800) : So (FX7_work t c (Int32.ofNat (2 * a)) (Int32.ofNat (2 * b)) M) (fun r => (SmE t M r.2 ∧ mI r.2 t 2 = mI M t 2) ∧ ((dV f (tlD (mI M (t + 1))) = none ∧ r.1 = 0) ∨ ∃ v, dV f (tlD (mI M (t + 1))) = some v ∧ r.1 = 1 ∧ mI r.2 t 5 = v.toInt32)) := by
  refine (work7 hc (by omega)).mono (fun r hr => ⟨⟨hr.1.sm, by rw [hr.1.2.1 2 (by decide), mI_sI, if_neg (by simp)]⟩, ?_⟩)
  have := hr.2
  rw [evC h h1 h2] at this
  cases hd : dV f (tlD (mI M (t + 1))) with
  | none => rw [hd] at this; exact Or.inl ⟨rfl, this⟩
  | some v => rw [hd] at this; exact Or.inr ⟨v, rfl, this⟩
theorem b32 {v : Int64} (h : v = 0 ∨ v = 1) : v.toInt32 = 0 ↔ v = 0 := by rcases h with rfl | rfl <;> decide
theorem isSo_c {t c i n len : Nat} {I : Nat → CI} {M : Mem} (hc : c + 1 ≠ t ∧ c + 1 ≠ t + 2) (h : TXT M c n len I) (hi : i < n) : So (FX7_isSo t c (Int32.ofNat i) M) (fun r => SmE t M r.2 ∧ r.1 = if dT (I i).2.2.2.2 (tlD (mI M (t + 1))) = true then 1 else 0) := by
  obtain ⟨h1, h2, h3, h4, h5, h6, h7, h8⟩ := h
  obtain ⟨a1, a2, a3, a4, c0, c1, c2, c3, c4, c5, l4, g1, g2, g3⟩ := h7 i hi
  have hb := h8 i hi
  unfold FX7_isSo
  refine So.bindE (at_so (col := 4) (by omega) h6) (So.bindE (at_so (col := 5) (by omega) h6) (So_jn2 (So_jn1 ?_)))
  rw [c4, c5]
  rcases g3 with ⟨e, rfl⟩ | ⟨g, X, e, rfl, hcc, hdd⟩
  · rw [if_pos rfl]
    refine So_gd rfl (So.ok ⟨SmE.rf, ?_⟩)
    rw [e]; rfl
  · have hne := DC_ne hdd (by omega) (by decide)
    rw [if_neg (fun z => by have := (nn_eq (by omega) (by omega)).mp z; omega)]
    refine So_bdM (work_so (f := some g) hc (Or.inr ⟨g, X, rfl, rfl, hcc, hdd⟩) (by omega) h4) (fun r N hr => So_jn0 ?_)
    obtain ⟨⟨q1, _⟩, ⟨q2, q3⟩ | ⟨v, q2, q3, q4⟩⟩ := hr
    · have q3 : r = 0 := q3
      rw [q3, if_pos rfl]
      refine So_gd rfl (So.ok ⟨q1, ?_⟩)
      have q2 : g (tlD (mI M (t + 1))) = none := q2
      rw [e]; unfold dT; simp only [q2]; rfl
    · have q3 : r = 1 := q3
      have q4 : mI N t 5 = v.toInt32 := q4
      have q2 : g (tlD (mI M (t + 1))) = some v := q2
      have hv := hb g e _ v q2
      rw [q3, if_neg (by decide), q4]
      by_cases z : v = 0
      · rw [if_pos ((b32 hv).mpr z)]
        refine So_gd rfl (So.ok ⟨q1, ?_⟩)
        rw [e]; unfold dT; simp only [q2, z]; rfl
      · rw [if_neg (fun y => z ((b32 hv).mp y))]
        refine So_gd rfl (So.ok ⟨q1, ?_⟩)
        rw [e]; unfold dT; simp [q2, z]
theorem workBoth_c {t c i n len : Nat} {I : Nat → CI} {M : Mem} (hc : c + 1 ≠ t ∧ c + 1 ≠ t + 2) (hc2 : c + 2 ≠ t ∧ c + 2 ≠ t + 2) (h : TXT M c n len I) (hi : i < n) : So (FX7_workBoth t c (Int32.ofNat i) M) (fun r => SmE t M r.2 ∧ ((∃ v1 v2, dV (I i).2.2.1 (tlD (mI M (t + 1))) = some v1 ∧ dV (I i).2.2.2.1 (tlD (mI M (t + 1))) = some v2 ∧ r.1 = 1 ∧ mI r.2 t 2 = v1.toInt32 ∧ mI r.2 t 3 = v2.toInt32) ∨ ((dV (I i).2.2.1 (tlD (mI M (t + 1))) = none ∨ dV (I i).2.2.2.1 (tlD (mI M (t + 1))) = none) ∧ r.1 = 0))) := by
  have h' := h
  obtain ⟨h1, h2, h3, h4, h5, h6, h7, h8⟩ := h
  obtain ⟨a1, a2, a3, a4, c0, c1, c2, c3, c4, c5, l4, g1, g2, g3⟩ := h7 i hi
  have l1 := g1.le
  have l2 := g2.le
  have l3 := g3.le
  unfold FX7_workBoth
  refine So.bindE (at_so (col := 2) (by omega) h6) (So.bindE (at_so (col := 3) (by omega) h6) ?_)
  rw [c2, c3]
  refine So_bdM (work_so hc g1 (by omega) h4) (fun r N hr => So_nm ?_)
  have q1 : SmE t M N := hr.1.1
  have f5 : mI (sI N t 2 (mI N t 5)) t 5 = mI N t 5 := by rw [mI_sI, if_neg (by simp)]
  have s5 : SmE t M (sI N t 2 (mI N t 5)) := q1.tr (SmE_s (by decide))
  have e1 : Ea M (sI N t 2 (mI N t 5)) (c + 1) := s5.1 _ (by omega)
  have e2 : Ea M (sI N t 2 (mI N t 5)) (c + 2) := s5.1 _ (by omega)
  have et : mI (sI N t 2 (mI N t 5)) (t + 1) = mI M (t + 1) := (s5.1 (t + 1) (by omega)).1
  have m2 : mI (sI N t 2 (mI N t 5)) t 2 = mI N t 5 := by rw [mI_sI, if_pos ⟨rfl, rfl⟩]
  generalize sI N t 2 (mI N t 5) = N5 at *
  refine So_jn2R (fun v K => SmE t M K ∧ ((∃ v1 v2, dV (I i).2.2.1 (tlD (mI M (t + 1))) = some v1 ∧ dV (I i).2.2.2.1 (tlD (mI M (t + 1))) = some v2 ∧ v = 1 ∧ mI K t 2 = v1.toInt32 ∧ mI K t 5 = v2.toInt32) ∨ ((dV (I i).2.2.1 (tlD (mI M (t + 1))) = none ∨ dV (I i).2.2.2.1 (tlD (mI M (t + 1))) = none) ∧ v = 0))) (fun v K hK => So_nm (So_gd ?_ (So.ok ⟨hK.1.tr (SmE_s (by decide)), ?_⟩))) (fun j8 hj8 => So_jn1R (fun K => SmE t M K ∧ (dV (I i).2.2.1 (tlD (mI M (t + 1))) = none ∨ dV (I i).2.2.2.1 (tlD (mI M (t + 1))) = none)) (fun K hK => hj8 _ _ ⟨hK.1, Or.inr ⟨hK.2, rfl⟩⟩) (fun j13 hj13 => ?_))
  · rcases hK.2 with ⟨_, _, _, _, z, _⟩ | ⟨_, z⟩ <;> rw [z] <;> rfl
  · rcases hK.2 with ⟨v1, v2, z1, z2, z3, z4, z5⟩ | z
    · refine Or.inl ⟨v1, v2, z1, z2, z3, ?_, ?_⟩
      · rw [mI_sI, if_neg (by simp)]; exact z4
      · rw [mI_sI, if_pos ⟨rfl, rfl⟩]; exact z5
    · exact Or.inr z
  · rcases hr.2 with ⟨q2, q3⟩ | ⟨v1, q2, q3, q4⟩
    · have q3 : r = 0 := q3
      rw [q3, if_pos rfl]
      exact hj13 _ ⟨s5, Or.inl q2⟩
    · have q3 : r = 1 := q3
      have q4 : mI N t 5 = v1.toInt32 := q4
      rw [q3, if_neg (by decide)]
      refine So.bindE (at_so (M := N5) (c := c) (i := i) (col := 3) (by rw [e2.2.2.2]; omega) (by rw [e2.2.2.2]; exact h6)) (So.bindE (at_so (M := N5) (c := c) (i := i) (col := 4) (by rw [e2.2.2.2]; omega) (by rw [e2.2.2.2]; exact h6)) ?_)
      rw [e2.1, c3, c4]
      refine So_bdM (work_so hc (by rw [e1.1]; exact g2) (by rw [e1.2.2.2]; omega) (by rw [e1.2.2.2]; exact h4)) (fun r' K hr' => ?_)
      rw [et] at hr'
      have k1 : SmE t N5 K := hr'.1.1
      have k2 : mI K t 2 = mI N5 t 2 := hr'.1.2
      rcases hr'.2 with ⟨w2, w3⟩ | ⟨v2, w2, w3, w4⟩
      · have w3 : r' = 0 := w3
        rw [w3, if_pos rfl]
        exact hj13 _ ⟨s5.tr k1, Or.inr w2⟩
      · have w3 : r' = 1 := w3
        rw [w3, if_neg (by decide)]
        refine hj8 _ _ ⟨s5.tr k1, Or.inl ⟨v1, v2, q2, w2, rfl, ?_, w4⟩⟩
        rw [k2, m2]; exact q4
theorem holds_c {w c i n len : Nat} {I : Nat → CI} {M : Mem} (hc : c + 1 ≠ w + 1 ∧ c + 1 ≠ w + 3) (hc2 : c + 2 ≠ w + 1 ∧ c + 2 ≠ w + 3) (h : TXT M c n len I) (hi : i < n) : So (FX10_holds w c (Int32.ofNat i) M) (fun r => SmE (w + 1) M r.2 ∧ ((∃ v, hI (I i) (tlD (mI M (w + 2))) = some v ∧ r.1 = 1 ∧ mI r.2 (w + 1) 2 = v.toInt32) ∨ (hI (I i) (tlD (mI M (w + 2))) = none ∧ r.1 = 0))) := by
  unfold FX10_holds
  refine So_bdM (isSo_c (t := w + 1) ⟨by omega, by omega⟩ h hi) (fun r N hr => So_jn2 (So_jn1 ?_))
  obtain ⟨q1, q2⟩ := hr
  have q1 : SmE (w + 1) M N := q1
  have q2 : r = if dT (I i).2.2.2.2 (tlD (mI M (w + 1 + 1))) = true then 1 else 0 := q2
  have et : mI N (w + 1 + 1) = mI M (w + 1 + 1) := (q1.1 (w + 1 + 1) (by omega)).1
  rw [q2]
  unfold hI
  by_cases z : dT (I i).2.2.2.2 (tlD (mI M (w + 1 + 1))) = true
  · rw [if_pos z, if_neg (by decide), if_pos z]
    refine So_bdM (workBoth_c (t := w + 1) ⟨by omega, by omega⟩ ⟨by omega, by omega⟩ (h.keep (q1.1 _ (by omega)) (q1.1 _ (by omega))) hi) (fun r' K hr' => ?_)
    rw [et] at hr'
    obtain ⟨k1, k2⟩ := hr'
    rcases k2 with ⟨v1, v2, a1, a2, a3, a4, a5⟩ | ⟨a1, a2⟩
    · have a3 : r' = 1 := a3
      rw [a3, if_neg (by decide)]
      refine So_gd rfl (So.ok ⟨q1.tr k1, Or.inl ⟨v1, ?_, rfl, a4⟩⟩)
      rw [a1, a2]; rfl
    · have a2 : r' = 0 := a2
      rw [a2, if_pos rfl]
      refine So_gd rfl (So.ok ⟨q1.tr k1, Or.inr ⟨?_, rfl⟩⟩)
      rcases a1 with a1 | a1
      · rw [a1]; rfl
      · rw [a1]; cases dV (I i).2.2.1 (tlD (mI M (w + 1 + 1))) <;> rfl
  · rw [if_neg z, if_pos rfl, if_neg z]
    exact So_gd rfl (So.ok ⟨q1, Or.inr ⟨rfl, rfl⟩⟩)
