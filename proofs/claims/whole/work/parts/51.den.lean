/-! ===== what codes tell ===== -/
abbrev Den : Type := (Int32 → Int32) → Option Int64
def cC (cd : Nat → Int32) (a : Nat) (X : List (Nat × Nat)) : Prop := ∀ i, i < X.length → cd (2 * (a + i)) = Int32.ofNat (X.getD i (0, 0)).1 ∧ cd (2 * (a + i) + 1) = Int32.ofNat (X.getD i (0, 0)).2
def cR (co ca : Nat → Int32) (a : Nat) (X : List (Nat × Nat)) : Prop := ∀ i, i < X.length → co (a + i) = Int32.ofNat (X.getD i (0, 0)).1 ∧ ca (a + i) = Int32.ofNat (X.getD i (0, 0)).2
theorem cC.l {cd : Nat → Int32} {a : Nat} {X Y : List (Nat × Nat)} (h : cC cd a (X ++ Y)) : cC cd a X := fun i hi => by
  have := h i (by rw [List.length_append]; omega)
  rw [gD_app_l hi] at this; exact this
theorem cC.r {cd : Nat → Int32} {a : Nat} {X Y : List (Nat × Nat)} (h : cC cd a (X ++ Y)) : cC cd (a + X.length) Y := fun i hi => by
  have := h (X.length + i) (by rw [List.length_append]; omega)
  rw [gD_app_r, ← Nat.add_assoc] at this; exact this
theorem cR.l {co ca : Nat → Int32} {a : Nat} {X Y : List (Nat × Nat)} (h : cR co ca a (X ++ Y)) : cR co ca a X := fun i hi => by
  have := h i (by rw [List.length_append]; omega)
  rw [gD_app_l hi] at this; exact this
theorem cR.r {co ca : Nat → Int32} {a : Nat} {X Y : List (Nat × Nat)} (h : cR co ca a (X ++ Y)) : cR co ca (a + X.length) Y := fun i hi => by
  have := h (X.length + i) (by rw [List.length_append]; omega)
  rw [gD_app_r, ← Nat.add_assoc] at this; exact this
def Rg (f : Den) : Prop := ∀ tl v, f tl = some v → -2147483648 ≤ v.toInt ∧ v.toInt < 2147483648
def DC (X : List (Nat × Nat)) (a d : Nat) (f : Den) : Prop := Rg f ∧ ∀ (cd : Nat → Int32) (sz hi : Nat) (tl : Int32 → Int32) (s : List Int64) (n : Nat), cC cd a X → 2 * (a + X.length) ≤ hi → hi ≤ sz → sz ≤ 800 → s.length + d ≤ 32 → ∃ n', n ≤ n' ∧ wkP sz cd tl (Int32.ofNat hi) (n + X.length) (Int32.ofNat (2 * a)) s = (f tl).bind (fun v => wkP sz cd tl (Int32.ofNat hi) n' (Int32.ofNat (2 * (a + X.length))) (v :: s))
/-- what the reference's words tell is what the class's do -/
def Cmp (o : Nat) (lv : Int32 → Int32 → Int64) (tl : Int32 → Int32) : Prop := (∀ n : Nat, n ≤ 1000 → lv 0 (Int32.ofNat n) = (Int32.ofNat n).toInt64) ∧ (o = 0 → ∀ k, k < 6 → lv (Int32.ofNat (k + 1)) 0 = (tl (Int32.ofNat (([1, 2, 3, 4, 0, 5] : List Nat).getD k 0))).toInt64) ∧ (o = 1 → (∀ k, k < 5 → lv (Int32.ofNat (k + 1)) 0 = (tl (Int32.ofNat k)).toInt64) ∧ (∀ n, n ≤ 1 → lv 6 (Int32.ofNat n) = (tl (Int32.ofNat (5 + n))).toInt64) ∧ ∀ n, n ≤ 11 → lv 7 (Int32.ofNat n) = (tl (Int32.ofNat (7 + n))).toInt64)
def okS (o : Nat) (X : List (Nat × Nat)) (a : Nat) : Prop := ∀ i, i < X.length → ((X.getD i (0, 0)).1 < 20 → (o = 0 → (X.getD i (0, 0)).1 < 13) ∧ (o = 1 → (X.getD i (0, 0)).1 < 6 ∨ (X.getD i (0, 0)).2 < 12)) ∧ (28 < (X.getD i (0, 0)).1 → a + i < (X.getD i (0, 0)).2) ∧ (X.getD i (0, 0)).1 < 100 ∧ (X.getD i (0, 0)).2 < 100000
theorem okS_app {o a : Nat} {X Y : List (Nat × Nat)} (h1 : okS o X a) (h2 : okS o Y (a + X.length)) : okS o (X ++ Y) a := by
  intro i hi
  by_cases c : i < X.length
  · rw [gD_app_l c]; exact h1 i c
  · obtain ⟨j, rfl⟩ : ∃ j, i = X.length + j := ⟨i - X.length, by omega⟩
    rw [gD_app_r, ← Nat.add_assoc]
    exact h2 j (by rw [List.length_append] at hi; omega)
theorem okS_one {o a op x : Nat} (h1 : op < 20 → (o = 0 → op < 13) ∧ (o = 1 → op < 6 ∨ x < 12)) (h2 : 28 < op → a < x) (h3 : op < 100) (h4 : x < 100000) : okS o [(op, x)] a := by
  intro i hi
  have : i = 0 := by simp at hi; omega
  subst this
  exact ⟨h1, fun z => by have := h2 z; simp; omega, h3, h4⟩
def DR (o : Nat) (X : List (Nat × Nat)) (a d : Nat) (f : Den) : Prop := okS o X a ∧ ∀ (co ca : Nat → Int32) (hi : Nat) (lv : Int32 → Int32 → Int64) (tl : Int32 → Int32) (s : List Int64) (n : Nat), cR co ca a X → a + X.length ≤ hi → s.length + d ≤ 400 → Cmp o lv tl → ∃ n', n ≤ n' ∧ rcP co ca lv hi (n + X.length) a s = (f tl).elim (some none) (fun v => rcP co ca lv hi n' (a + X.length) (v :: s))
theorem DC.up {X : List (Nat × Nat)} {a d d' : Nat} {f : Den} (h : DC X a d f) (hd : d ≤ d') : DC X a d' f := ⟨h.1, fun cd sz hi tl s n h1 h2 h3 h4 h5 => h.2 cd sz hi tl s n h1 h2 h3 h4 (by omega)⟩
theorem DR.up {o : Nat} {X : List (Nat × Nat)} {a d d' : Nat} {f : Den} (h : DR o X a d f) (hd : d ≤ d') : DR o X a d' f := ⟨h.1, fun co ca hi lv tl s n h1 h2 h3 h4 => h.2 co ca hi lv tl s n h1 h2 (by omega) h4⟩
theorem wk_s {sz hi a n : Nat} {cd : Nat → Int32} {tl : Int32 → Int32} {s : List Int64} (h1 : 2 * a + 2 ≤ hi) (h2 : hi ≤ sz) (h3 : sz ≤ 800) : wkP sz cd tl (Int32.ofNat hi) (n + 1) (Int32.ofNat (2 * a)) s = (wk1 (cd (2 * a)) (cd (2 * a + 1)) tl (Int32.ofNat (2 * a)) s).bind (fun q => wkP sz cd tl (Int32.ofNat hi) n q.1 q.2) := by
  conv => lhs; unfold wkP
  have e1 : Int32.ofNat (2 * a) + 1 = Int32.ofNat (2 * a + 1) := s1 _
  rw [if_neg, e1, nn_ix (by omega), nn_ix (by omega)]
  · cases wk1 (cd (2 * a)) (cd (2 * a + 1)) tl (Int32.ofNat (2 * a)) s <;> rfl
  · rintro (z | z | z)
    · rw [Int32.lt_iff_toInt_lt, nn_int (by omega), show (0 : Int32).toInt = 0 from rfl] at z; omega
    · have := (nn_le (by omega) (by omega)).mp z; omega
    · rw [e1] at z; have := (nn_le (by omega) (by omega)).mp z; omega
theorem rc_s {hi p n : Nat} {co ca : Nat → Int32} {lv : Int32 → Int32 → Int64} {s : List Int64} {q : Nat} {s' : List Int64} (h : p < hi) (h1 : rc1 (co p) (ca p) lv p s = some (some (q, s'))) : rcP co ca lv hi (n + 1) p s = rcP co ca lv hi n q s' := by
  conv => lhs; unfold rcP
  rw [if_neg (by omega), h1]
theorem rc_b {hi p n : Nat} {co ca : Nat → Int32} {lv : Int32 → Int32 → Int64} {s : List Int64} (h : p < hi) (h1 : rc1 (co p) (ca p) lv p s = some none) : rcP co ca lv hi (n + 1) p s = some none := by
  conv => lhs; unfold rcP
  rw [if_neg (by omega), h1]
theorem two_s (a : Nat) : Int32.ofNat (2 * a) + 2 = Int32.ofNat (2 * (a + 1)) := by
  rw [show (2 : Int32) = Int32.ofNat 2 from rfl, nn_add]; congr 1
theorem psh_ok {v : Int64} {s : List Int64} (h : s.length < 32) : psh v s = v :: s := by unfold psh; rw [if_pos h]
/-! leaves -/
theorem Rg_i (x : Int32) : -2147483648 ≤ x.toInt64.toInt ∧ x.toInt64.toInt < 2147483648 := by
  rw [j_int]
  have := x.le_toInt
  have := x.toInt_lt
  omega
theorem DC_num (a n : Nat) : DC [(0, n)] a 1 (fun _ => some (Int32.ofNat n).toInt64) := by
  refine ⟨fun tl v h => by cases h; exact Rg_i _, ?_⟩
  intro cd sz hi tl s m h1 h2 h3 h4 h5
  have c := h1 0 (by simp)
  simp only [List.length_cons, List.length_nil, Nat.add_zero] at c h2 ⊢
  refine ⟨m, Nat.le_refl _, ?_⟩
  rw [Nat.zero_add, wk_s (by omega) h3 h4, c.1, c.2]
  unfold wk1
  rw [if_pos (by rfl), two_s, psh_ok (by omega)]; rfl
theorem DC_word (a w : Nat) : DC [(1, w)] a 1 (fun tl => some (tl (Int32.ofNat w)).toInt64) := by
  refine ⟨fun tl v h => by cases h; exact Rg_i _, ?_⟩
  intro cd sz hi tl s m h1 h2 h3 h4 h5
  have c := h1 0 (by simp)
  simp only [List.length_cons, List.length_nil, Nat.add_zero] at c h2 ⊢
  refine ⟨m, Nat.le_refl _, ?_⟩
  rw [Nat.zero_add, wk_s (by omega) h3 h4, c.1, c.2, show Int32.ofNat ([(1, w)].getD 0 (0, 0)).1 = 1 from rfl, show Int32.ofNat ([(1, w)].getD 0 (0, 0)).2 = Int32.ofNat w from rfl]
  unfold wk1
  rw [if_neg (by decide), if_pos (by rfl), two_s, psh_ok (by omega)]; rfl
theorem DR_leaf (o a op x : Nat) (f : Den) (hop : op < 20) (hx : x < 100000) (h0 : o = 0 → op < 13) (h1 : o = 1 → op < 6 ∨ x < 12) (hf : ∀ lv tl, Cmp o lv tl → f tl = some (lv (Int32.ofNat op) (Int32.ofNat x))) : DR o [(op, x)] a 1 f := by
  refine ⟨okS_one (fun _ => ⟨h0, h1⟩) (by omega) (by omega) hx, ?_⟩
  intro co ca hi lv tl s m h1 h2 h3 h4
  have c := h1 0 (by simp)
  simp only [List.length_cons, List.length_nil, Nat.add_zero] at c h2 ⊢
  refine ⟨m, Nat.le_refl _, ?_⟩
  rw [hf lv tl h4]
  refine rc_s (by omega) ?_
  rw [c.1, c.2]
  unfold rc1
  rw [if_pos (by show (Int32.ofNat op).toInt < 20; rw [nn_int (by omega)]; omega), if_pos (by omega)]
  rfl
/-- two numbers and what joins them -/
def opV (k : Nat) (x y : Int64) : Option Int64 := if y = 0 ∧ (k = 5 ∨ k = 6) then none else if -1000000000 ≤ (bin (Int32.ofNat k) x y).toInt ∧ (bin (Int32.ofNat k) x y).toInt ≤ 1000000000 then some (bin (Int32.ofNat k) x y) else none
def dBin (k : Nat) (f g : Den) : Den := fun tl => (f tl).bind (fun x => (g tl).bind (fun y => opV k x y))
theorem jnP_eq (k : Nat) (hk : 2 ≤ k ∧ k ≤ 9) (x y : Int64) (s : List Int64) : jnP (Int32.ofNat k) (y :: x :: s) = (opV k x y).map (fun v => v :: s) := by
  unfold jnP opV
  have e5 : (Int32.ofNat k = 5) ↔ k = 5 := nn_eq (b := 5) (by omega) (by omega)
  have e6 : (Int32.ofNat k = 6) ↔ k = 6 := nn_eq (b := 6) (by omega) (by omega)
  have l1 : ¬ (y :: x :: s).length < 2 := by simp
  rw [if_neg l1]
  show (if y = 0 ∧ (Int32.ofNat k = 5 ∨ Int32.ofNat k = 6) then none else if 1000000000 < bin (Int32.ofNat k) x y ∨ bin (Int32.ofNat k) x y < -1000000000 then none else some (bin (Int32.ofNat k) x y :: s)) = _
  by_cases c1 : y = 0 ∧ (k = 5 ∨ k = 6)
  · rw [if_pos c1, if_pos ⟨c1.1, c1.2.imp e5.mpr e6.mpr⟩]; rfl
  · rw [if_neg c1, if_neg (fun z => c1 ⟨z.1, z.2.imp e5.mp e6.mp⟩)]
    generalize bin (Int32.ofNat k) x y = v
    have e1 : ((1000000000 : Int64) < v ∨ v < -1000000000) ↔ ¬ (-1000000000 ≤ v.toInt ∧ v.toInt ≤ 1000000000) := by
      rw [Int64.lt_iff_toInt_lt, Int64.lt_iff_toInt_lt, show (1000000000 : Int64).toInt = 1000000000 from rfl, show (-1000000000 : Int64).toInt = -1000000000 from rfl]; omega
    by_cases c2 : -1000000000 ≤ v.toInt ∧ v.toInt ≤ 1000000000
    · rw [if_pos c2, if_neg (fun z => (e1.mp z) c2)]; rfl
    · rw [if_neg c2, if_pos (e1.mpr c2)]; rfl
theorem Rg_bin {k : Nat} {f g : Den} : Rg (dBin k f g) := by
  intro tl v h
  unfold dBin at h
  cases hf : f tl with
  | none => rw [hf] at h; cases h
  | some x =>
    rw [hf] at h
    cases hg : g tl with
    | none => rw [hg] at h; cases h
    | some y =>
      rw [hg] at h
      have h : opV k x y = some v := h
      unfold opV at h
      split at h
      · cases h
      · split at h
        · rename_i hr
          cases h; omega
        · cases h
theorem DC_bin {X Y : List (Nat × Nat)} {a d e k : Nat} {f g : Den} (hk : 2 ≤ k ∧ k ≤ 9) (hX : DC X a d f) (hY : DC Y (a + X.length) e g) (hd : d ≤ e + 1) : DC (X ++ Y ++ [(k, 0)]) a (e + 1) (dBin k f g) := by
  refine ⟨Rg_bin, ?_⟩
  intro cd sz hi tl s n h1 h2 h3 h4 h5
  simp only [List.length_append, List.length_cons, List.length_nil] at h2 ⊢
  have c1 := h1.l.l
  have c2 := h1.l.r
  have c3 := h1.r 0 (by simp)
  simp only [List.length_append, Nat.add_zero] at c3
  obtain ⟨n1, g1, e1⟩ := hX.2 cd sz hi tl s (n + (Y.length + 1)) c1 (by omega) h3 h4 (by omega)
  rw [show n + (X.length + Y.length + (0 + 1)) = n + (Y.length + 1) + X.length by omega, e1]
  unfold dBin
  cases hf : f tl with
  | none => exact ⟨n, Nat.le_refl _, rfl⟩
  | some x =>
    show ∃ n', n ≤ n' ∧ wkP sz cd tl (Int32.ofNat hi) n1 (Int32.ofNat (2 * (a + X.length))) (x :: s) = _
    obtain ⟨n2, g2, e2⟩ := hY.2 cd sz hi tl (x :: s) (n1 - Y.length) c2 (by omega) h3 h4 (by simp only [List.length_cons]; omega)
    rw [show n1 - Y.length + Y.length = n1 by omega] at e2
    rw [e2]
    cases hg : g tl with
    | none => exact ⟨n, Nat.le_refl _, rfl⟩
    | some y =>
      obtain ⟨m, hm⟩ : ∃ m, n2 = m + 1 := ⟨n2 - 1, by omega⟩
      refine ⟨m, by omega, ?_⟩
      show wkP sz cd tl (Int32.ofNat hi) n2 (Int32.ofNat (2 * (a + X.length + Y.length))) (y :: x :: s) = _
      rw [hm, wk_s (by omega) h3 h4, show a + X.length + Y.length = a + (X.length + Y.length) by omega, c3.1]
      unfold wk1
      have q0 : ¬ Int32.ofNat k = 0 := fun z => by have := (nn_eq (b := 0) (by omega) (by omega)).mp z; omega
      have q1 : ¬ Int32.ofNat k = 1 := fun z => by have := (nn_eq (b := 1) (by omega) (by omega)).mp z; omega
      have q10 : ¬ Int32.ofNat k = 10 := fun z => by have := (nn_eq (b := 10) (by omega) (by omega)).mp z; omega
      have q11 : ¬ Int32.ofNat k = 11 := fun z => by have := (nn_eq (b := 11) (by omega) (by omega)).mp z; omega
      have q12 : ¬ Int32.ofNat k = 12 := fun z => by have := (nn_eq (b := 12) (by omega) (by omega)).mp z; omega
      show ((if Int32.ofNat k = 0 then _ else if Int32.ofNat k = 1 then _ else if Int32.ofNat k = 10 then _ else if Int32.ofNat k = 11 ∨ Int32.ofNat k = 12 then _ else (jnP (Int32.ofNat k) (y :: x :: s)).map _ : Option (Int32 × List Int64))).bind _ = _
      rw [if_neg q0, if_neg q1, if_neg q10, if_neg (fun z => z.elim q11 q12), jnP_eq k hk, two_s]
      show _ = (opV k x y).bind _
      cases opV k x y with
      | none => rfl
      | some v => rfl
theorem rbin_eq : ∀ k, k < 10 → 2 ≤ k → ∀ x y : Int64, rbin (Int32.ofNat (k + 18)) x y = bin (Int32.ofNat k) x y ∧ (rbk (Int32.ofNat (k + 18)) y = true ↔ y = 0 ∧ (k = 5 ∨ k = 6)) := by
  intro k h1 h2 x y
  obtain rfl | rfl | rfl | rfl | rfl | rfl | rfl | rfl : k = 2 ∨ k = 3 ∨ k = 4 ∨ k = 5 ∨ k = 6 ∨ k = 7 ∨ k = 8 ∨ k = 9 := by omega
  all_goals (refine ⟨by unfold rbin bin; rfl, ?_⟩; unfold rbk; simp; try decide)
theorem DR_bin {o : Nat} {X Y : List (Nat × Nat)} {a d e k : Nat} {f g : Den} (hk : 2 ≤ k ∧ k ≤ 9) (hX : DR o X a d f) (hY : DR o Y (a + X.length) e g) (hd : d ≤ e + 1) : DR o (X ++ Y ++ [(k + 18, 0)]) a (e + 1) (dBin k f g) := by
  refine ⟨okS_app (okS_app hX.1 hY.1) (okS_one (by omega) (by omega) (by omega) (by omega)), ?_⟩
  intro co ca hi lv tl s n h1 h2 h3 h4
  simp only [List.length_append, List.length_cons, List.length_nil] at h2 ⊢
  have c1 := h1.l.l
  have c2 := h1.l.r
  have c3 := h1.r 0 (by simp)
  simp only [List.length_append, Nat.add_zero] at c3
  obtain ⟨n1, g1, e1⟩ := hX.2 co ca hi lv tl s (n + (Y.length + 1)) c1 (by omega) (by omega) h4
  rw [show n + (X.length + Y.length + (0 + 1)) = n + (Y.length + 1) + X.length by omega, e1]
  unfold dBin
  cases hf : f tl with
  | none => exact ⟨n, Nat.le_refl _, rfl⟩
  | some x =>
    show ∃ n', n ≤ n' ∧ rcP co ca lv hi n1 (a + X.length) (x :: s) = _
    obtain ⟨n2, g2, e2⟩ := hY.2 co ca hi lv tl (x :: s) (n1 - Y.length) c2 (by omega) (by simp only [List.length_cons]; omega) h4
    rw [show n1 - Y.length + Y.length = n1 by omega] at e2
    rw [e2]
    cases hg : g tl with
    | none => exact ⟨n, Nat.le_refl _, rfl⟩
    | some y =>
      obtain ⟨m, hm⟩ : ∃ m, n2 = m + 1 := ⟨n2 - 1, by omega⟩
      refine ⟨m, by omega, ?_⟩
      show rcP co ca lv hi n2 (a + X.length + Y.length) (y :: x :: s) = (opV k x y).elim (some none) _
      obtain ⟨rb1, rb2⟩ := rbin_eq k (by omega) hk.1 x y
      have hrc : rc1 (co (a + (X.length + Y.length))) (ca (a + (X.length + Y.length))) lv (a + (X.length + Y.length)) (y :: x :: s) = if rbk (Int32.ofNat (k + 18)) y = true ∨ ¬ (-1000000000 ≤ (bin (Int32.ofNat k) x y).toInt ∧ (bin (Int32.ofNat k) x y).toInt ≤ 1000000000) then some none else some (some (a + (X.length + Y.length) + 1, bin (Int32.ofNat k) x y :: s)) := by
        rw [c3.1, ← rb1]
        unfold rc1
        have t0 : (Int32.ofNat (k + 18)).toInt = k + 18 := nn_int (by omega)
        show (if (Int32.ofNat (k + 18)).toInt < 20 then _ else if (Int32.ofNat (k + 18)).toInt < 28 then _ else _) = _
        rw [if_neg (by omega), if_pos (by omega)]
        rfl
      rw [hm, show a + X.length + Y.length = a + (X.length + Y.length) by omega]
      unfold opV
      by_cases z1 : y = 0 ∧ (k = 5 ∨ k = 6)
      · rw [if_pos z1]
        refine rc_b (by omega) ?_
        rw [hrc, if_pos (Or.inl (rb2.mpr z1))]
      · rw [if_neg z1]
        by_cases z2 : -1000000000 ≤ (bin (Int32.ofNat k) x y).toInt ∧ (bin (Int32.ofNat k) x y).toInt ≤ 1000000000
        · rw [if_pos z2]
          refine rc_s (by omega) ?_
          rw [hrc, if_neg (fun z => z.elim (fun z => z1 (rb2.mp z)) (fun z => z z2))]
          rfl
        · rw [if_neg z2]
          refine rc_b (by omega) ?_
          rw [hrc, if_pos (Or.inr z2)]
def dNot (f : Den) : Den := fun tl => (f tl).map (fun v => 1 - v)
theorem dNot2 (f : Den) : dNot (dNot f) = f := by
  funext tl
  unfold dNot
  cases f tl with
  | none => rfl
  | some v =>
    show some (1 - (1 - v)) = some v
    congr 1
    rw [Int64.sub_eq_add_neg, Int64.neg_sub, Int64.sub_eq_add_neg v 1, Int64.add_comm v, ← Int64.add_assoc]
    rw [show (1 : Int64) + -1 = 0 from by decide, Int64.zero_add]
/-- tests tell 0 or 1 -/
def TB (f : Den) : Prop := ∀ tl v, f tl = some v → v = 0 ∨ v = 1
theorem DC_not {X : List (Nat × Nat)} {a d : Nat} {f : Den} (hX : DC X a d f) (hTB : TB f) (hd : 1 ≤ d) : DC (X ++ [(10, 0)]) a d (dNot f) := by
  refine ⟨fun tl v h => ?_, ?_⟩
  · unfold dNot at h
    cases hf : f tl with
    | none => rw [hf] at h; cases h
    | some x =>
      rw [hf] at h
      rcases hTB tl x hf with rfl | rfl <;> (cases h; decide)
  intro cd sz hi tl s n h1 h2 h3 h4 h5
  simp only [List.length_append, List.length_cons, List.length_nil] at h2 ⊢
  have c1 := h1.l
  have c3 := h1.r 0 (by simp)
  simp only [Nat.add_zero] at c3
  obtain ⟨n1, g1, e1⟩ := hX.2 cd sz hi tl s (n + 1) c1 (by omega) h3 h4 (by omega)
  rw [show n + (X.length + (0 + 1)) = n + 1 + X.length by omega, e1]
  unfold dNot
  cases hf : f tl with
  | none => exact ⟨n, Nat.le_refl _, rfl⟩
  | some x =>
    obtain ⟨m, hm⟩ : ∃ m, n1 = m + 1 := ⟨n1 - 1, by omega⟩
    refine ⟨m, by omega, ?_⟩
    show wkP sz cd tl (Int32.ofNat hi) n1 (Int32.ofNat (2 * (a + X.length))) (x :: s) = wkP _ _ _ _ _ _ ((1 - x) :: s)
    rw [hm, wk_s (by omega) h3 h4, c3.1]
    unfold wk1
    rw [if_neg (by decide), if_neg (by decide), if_pos (by rfl), two_s]
    show wkP _ _ _ _ _ (Int32.ofNat (2 * (a + X.length + 1))) (psh (1 - x) s) = _
    rw [psh_ok (v := 1 - x) (s := s) (by omega)]; rfl
theorem DR_not {o : Nat} {X : List (Nat × Nat)} {a d : Nat} {f : Den} (hX : DR o X a d f) : DR o (X ++ [(28, 0)]) a d (dNot f) := by
  refine ⟨okS_app hX.1 (okS_one (by omega) (by omega) (by omega) (by omega)), ?_⟩
  intro co ca hi lv tl s n h1 h2 h3 h4
  simp only [List.length_append, List.length_cons, List.length_nil] at h2 ⊢
  have c1 := h1.l
  have c3 := h1.r 0 (by simp)
  simp only [Nat.add_zero] at c3
  obtain ⟨n1, g1, e1⟩ := hX.2 co ca hi lv tl s (n + 1) c1 (by omega) (by omega) h4
  rw [show n + (X.length + (0 + 1)) = n + 1 + X.length by omega, e1]
  unfold dNot
  cases hf : f tl with
  | none => exact ⟨n, Nat.le_refl _, rfl⟩
  | some x =>
    obtain ⟨m, hm⟩ : ∃ m, n1 = m + 1 := ⟨n1 - 1, by omega⟩
    refine ⟨m, by omega, ?_⟩
    show rcP co ca lv hi n1 (a + X.length) (x :: s) = _
    rw [hm]
    refine rc_s (by omega) ?_
    rw [c3.1]
    unfold rc1
    show (if (Int32.ofNat 28).toInt < 20 then _ else if (Int32.ofNat 28).toInt < 28 then _ else if Int32.ofNat 28 = 28 then _ else _) = _
    rw [if_neg (by decide), if_neg (by decide), if_pos (by decide)]; rfl
def dAnd (f g : Den) : Den := fun tl => (f tl).bind (fun v => if v = 0 then some 0 else g tl)
def dOr (f g : Den) : Den := fun tl => (f tl).bind (fun v => if v = 0 then g tl else some 1)
def dJ (op : Nat) (f g : Den) : Den := if op = 11 then dAnd f g else dOr f g
theorem dJ_eq {op : Nat} {f g : Den} (ho : op = 11 ∨ op = 12) (tl : Int32 → Int32) (v : Int64) (hf : f tl = some v) (hv : v = 0 ∨ v = 1) : dJ op f g tl = if (decide (v = 0)) = (decide (op = 12)) then g tl else some v := by
  unfold dJ
  rcases ho with rfl | rfl
  · rw [if_pos rfl]; unfold dAnd; rw [hf]
    rcases hv with rfl | rfl
    · rfl
    · rfl
  · rw [if_neg (by decide)]; unfold dOr; rw [hf]
    rcases hv with rfl | rfl
    · rfl
    · rfl
theorem dJ_none {op : Nat} {f g : Den} (ho : op = 11 ∨ op = 12) (tl : Int32 → Int32) (hf : f tl = none) : dJ op f g tl = none := by
  unfold dJ
  rcases ho with rfl | rfl
  · rw [if_pos rfl]; unfold dAnd; rw [hf]; rfl
  · rw [if_neg (by decide)]; unfold dOr; rw [hf]; rfl
theorem TB_J {op : Nat} {f g : Den} (ho : op = 11 ∨ op = 12) (hf : TB f) (hg : TB g) : TB (dJ op f g) := by
  intro tl v h
  cases hft : f tl with
  | none => rw [dJ_none ho tl hft] at h; cases h
  | some x =>
    rw [dJ_eq ho tl x hft (hf tl x hft)] at h
    split at h
    · exact hg tl v h
    · rw [← Option.some.inj h]; exact hf tl x hft
theorem TB_not {f : Den} (hf : TB f) : TB (dNot f) := by
  intro tl v h
  unfold dNot at h
  cases hft : f tl with
  | none => rw [hft] at h; cases h
  | some x =>
    rw [hft] at h
    rcases hf tl x hft with rfl | rfl
    · cases h; exact Or.inr rfl
    · cases h; exact Or.inl rfl
theorem TB_cmp {k : Nat} (hk : 7 ≤ k ∧ k ≤ 9) (f g : Den) : TB (dBin k f g) := by
  intro tl v h
  unfold dBin at h
  cases hf : f tl with
  | none => rw [hf] at h; cases h
  | some x =>
    rw [hf] at h
    cases hg : g tl with
    | none => rw [hg] at h; cases h
    | some y =>
      rw [hg] at h
      have h : opV k x y = some v := h
      unfold opV at h
      split at h
      · cases h
      · split at h
        · cases h
          obtain rfl | rfl | rfl : k = 7 ∨ k = 8 ∨ k = 9 := by omega
          · show (if y ≤ x then (0 : Int64) else 1) = 0 ∨ (if y ≤ x then (0 : Int64) else 1) = 1
            split <;> simp
          · show (if x ≤ y then (0 : Int64) else 1) = 0 ∨ (if x ≤ y then (0 : Int64) else 1) = 1
            split <;> simp
          · show (if x = y then (1 : Int64) else 0) = 0 ∨ (if x = y then (1 : Int64) else 0) = 1
            split <;> simp
        · cases h
theorem DC_J {X Y : List (Nat × Nat)} {a d op : Nat} {f g : Den} (ho : op = 11 ∨ op = 12) (hT : TB f) (hX : DC X a d f) (hY : DC Y (a + X.length + 1) d g) (hd : 1 ≤ d) : DC (X ++ (op, 2 * (a + X.length + 1 + Y.length)) :: Y) a d (dJ op f g) := by
  refine ⟨fun tl v h => ?_, ?_⟩
  · cases hf : f tl with
    | none => rw [dJ_none ho tl hf] at h; cases h
    | some x =>
      rw [dJ_eq ho tl x hf (hT tl x hf)] at h
      split at h
      · exact hY.1 tl v h
      · rw [← Option.some.inj h]; exact hX.1 tl x hf
  intro cd sz hi tl s n h1 h2 h3 h4 h5
  simp only [List.length_append, List.length_cons] at h2 ⊢
  have c1 := h1.l
  have c3 := h1.r 0 (by simp)
  simp only [Nat.add_zero] at c3
  have c2 : cC cd (a + X.length + 1) Y := by
    have := h1.r
    exact (show cC cd (a + X.length) ([(op, 2 * (a + X.length + 1 + Y.length))] ++ Y) from this).r
  obtain ⟨n1, g1, e1⟩ := hX.2 cd sz hi tl s (n + (Y.length + 1)) c1 (by omega) h3 h4 (by omega)
  rw [show n + (X.length + (Y.length + 1)) = n + (Y.length + 1) + X.length by omega, e1]
  cases hf : f tl with
  | none => rw [dJ_none ho tl hf]; exact ⟨n, Nat.le_refl _, rfl⟩
  | some x =>
    rw [dJ_eq ho tl x hf (hT tl x hf)]
    obtain ⟨m, hm⟩ : ∃ m, n1 = m + 1 := ⟨n1 - 1, by omega⟩
    show ∃ n', n ≤ n' ∧ wkP sz cd tl (Int32.ofNat hi) n1 (Int32.ofNat (2 * (a + X.length))) (x :: s) = _
    rw [hm, wk_s (by omega) h3 h4, c3.1, c3.2]
    have hw : wk1 (Int32.ofNat op) (Int32.ofNat (2 * (a + X.length + 1 + Y.length))) tl (Int32.ofNat (2 * (a + X.length))) (x :: s) = if (decide (x = 0)) = (decide (op = 12)) then some (Int32.ofNat (2 * (a + X.length + 1)), s) else some (Int32.ofNat (2 * (a + X.length + 1 + Y.length)), x :: s) := by
      unfold wk1
      rw [two_s]
      show (if Int32.ofNat op = 0 then _ else if Int32.ofNat op = 1 then _ else if Int32.ofNat op = 10 then _ else if Int32.ofNat op = 11 ∨ Int32.ofNat op = 12 then (if (decide (x = 0)) = (decide (Int32.ofNat op = 12)) then some (_, s) else some (_, psh x s)) else _) = _
      rw [psh_ok (v := x) (s := s) (by omega)]
      rcases ho with rfl | rfl
      · rw [if_neg (by decide), if_neg (by decide), if_neg (by decide), if_pos (by decide)]
        rfl
      · rw [if_neg (by decide), if_neg (by decide), if_neg (by decide), if_pos (by decide)]
        rfl
    have hw2 : ([(op, 2 * (a + X.length + 1 + Y.length))] ++ Y).getD 0 (0, 0) = (op, 2 * (a + X.length + 1 + Y.length)) := rfl
    show ∃ n', n ≤ n' ∧ (wk1 (Int32.ofNat op) (Int32.ofNat (2 * (a + X.length + 1 + Y.length))) tl (Int32.ofNat (2 * (a + X.length))) (x :: s)).bind (fun q => wkP sz cd tl (Int32.ofNat hi) m q.1 q.2) = _
    rw [hw]
    by_cases z : (decide (x = 0)) = (decide (op = 12))
    · rw [if_pos z, if_pos z]
      obtain ⟨n2, g2, e2⟩ := hY.2 cd sz hi tl s (m - Y.length) c2 (by omega) h3 h4 h5
      rw [show m - Y.length + Y.length = m by omega] at e2
      refine ⟨n2, by omega, ?_⟩
      show wkP sz cd tl (Int32.ofNat hi) m (Int32.ofNat (2 * (a + X.length + 1))) s = _
      rw [e2, show a + X.length + 1 + Y.length = a + (X.length + (Y.length + 1)) by omega]
    · rw [if_neg z, if_neg z]
      refine ⟨m, by omega, ?_⟩
      show wkP sz cd tl (Int32.ofNat hi) m (Int32.ofNat (2 * (a + X.length + 1 + Y.length))) (x :: s) = _
      rw [show a + X.length + 1 + Y.length = a + (X.length + (Y.length + 1)) by omega]; rfl
theorem DR_J {o : Nat} {X Y : List (Nat × Nat)} {a d op : Nat} {f g : Den} (ho : op = 11 ∨ op = 12) (hT : TB f) (hX : DR o X a d f) (hY : DR o Y (a + X.length + 1) d g) (hb : a + X.length + 1 + Y.length < 1000) : DR o (X ++ (op + 18, a + X.length + 1 + Y.length) :: Y) a d (dJ op f g) := by
  refine ⟨okS_app hX.1 (okS_app (X := [(op + 18, a + X.length + 1 + Y.length)]) (okS_one (by omega) (by omega) (by omega) (by omega)) hY.1), ?_⟩
  intro co ca hi lv tl s n h1 h2 h3 h4
  simp only [List.length_append, List.length_cons] at h2 ⊢
  have c1 := h1.l
  have c3 := h1.r 0 (by simp)
  simp only [Nat.add_zero] at c3
  have c2 : cR co ca (a + X.length + 1) Y := by
    have := h1.r
    exact (show cR co ca (a + X.length) ([(op + 18, a + X.length + 1 + Y.length)] ++ Y) from this).r
  obtain ⟨n1, g1, e1⟩ := hX.2 co ca hi lv tl s (n + (Y.length + 1)) c1 (by omega) (by omega) h4
  rw [show n + (X.length + (Y.length + 1)) = n + (Y.length + 1) + X.length by omega, e1]
  cases hf : f tl with
  | none => rw [dJ_none ho tl hf]; exact ⟨n, Nat.le_refl _, rfl⟩
  | some x =>
    have hx01 := hT tl x hf
    rw [dJ_eq ho tl x hf hx01]
    obtain ⟨m, hm⟩ : ∃ m, n1 = m + 1 := ⟨n1 - 1, by omega⟩
    show ∃ n', n ≤ n' ∧ rcP co ca lv hi n1 (a + X.length) (x :: s) = _
    rw [hm]
    have hw : rc1 (co (a + X.length)) (ca (a + X.length)) lv (a + X.length) (x :: s) = if (decide (x = 0)) = (decide (op = 12)) then some (some (a + X.length + 1, s)) else some (some (a + X.length + 1 + Y.length, x :: s)) := by
      rw [c3.1, c3.2]
      show rc1 (Int32.ofNat (op + 18)) (Int32.ofNat (a + X.length + 1 + Y.length)) lv (a + X.length) (x :: s) = _
      unfold rc1
      show (if (Int32.ofNat (op + 18)).toInt < 20 then _ else if (Int32.ofNat (op + 18)).toInt < 28 then _ else if Int32.ofNat (op + 18) = 28 then _ else if x = (if Int32.ofNat (op + 18) = 29 then 0 else 1) then some (some (ix (Int32.ofNat (a + X.length + 1 + Y.length)), x :: s)) else some (some (a + X.length + 1, s))) = _
      rw [nn_ix (by omega)]
      rcases ho with rfl | rfl
      · rw [if_neg (by decide), if_neg (by decide), if_neg (by decide), if_pos (show Int32.ofNat (11 + 18) = 29 by decide)]
        rcases hx01 with rfl | rfl
        · rw [if_pos rfl, if_neg (by decide)]
        · rw [if_neg (by decide), if_pos (by decide)]
      · rw [if_neg (by decide), if_neg (by decide), if_neg (by decide), if_neg (show ¬ Int32.ofNat (12 + 18) = 29 by decide)]
        rcases hx01 with rfl | rfl
        · rw [if_neg (by decide), if_pos (by decide)]
        · rw [if_pos rfl, if_neg (by decide)]
    by_cases z : (decide (x = 0)) = (decide (op = 12))
    · rw [if_pos z] at hw ⊢
      obtain ⟨n2, g2, e2⟩ := hY.2 co ca hi lv tl s (m - Y.length) c2 (by omega) h3 h4
      rw [show m - Y.length + Y.length = m by omega] at e2
      refine ⟨n2, by omega, ?_⟩
      rw [rc_s (by omega) hw, e2, show a + X.length + 1 + Y.length = a + (X.length + (Y.length + 1)) by omega]
    · rw [if_neg z] at hw ⊢
      refine ⟨m, by omega, ?_⟩
      rw [rc_s (by omega) hw, show a + X.length + 1 + Y.length = a + (X.length + (Y.length + 1)) by omega]; rfl
