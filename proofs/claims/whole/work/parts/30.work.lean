/-! ===== the class's reckoner of codes, as a pure function ===== -/
def top (s : List Int64) : Int64 := s.getD 0 0
def psh (v : Int64) (s : List Int64) : List Int64 := if s.length < 32 then v :: s else s
def bin (op : Int32) (a b : Int64) : Int64 :=
  if op = 2 then a + b else if op = 3 then a - b else if op = 4 then a * b else if op = 5 then (if b = 0 then 0 else a / b) else if op = 6 then (if b = 0 then 0 else lrm a b) else if op = 7 then (if b ≤ a then 0 else 1) else if op = 8 then (if a ≤ b then 0 else 1) else (if a = b then 1 else 0)
def jnP (op : Int32) (s : List Int64) : Option (List Int64) :=
  if s.length < 2 then none else if s.getD 0 0 = 0 ∧ (op = 5 ∨ op = 6) then none else if 1000000000 < bin op (s.getD 1 0) (s.getD 0 0) ∨ bin op (s.getD 1 0) (s.getD 0 0) < -1000000000 then none else some (bin op (s.getD 1 0) (s.getD 0 0) :: s.tail.tail)
def StR (M : Mem) (t : Nat) (s : List Int64) : Prop := s.length ≤ 32 ∧ mI M t 4 = Int32.ofNat s.length ∧ ∀ i, i < s.length → mJ M (t + 2) (s.length - 1 - i) = s.getD i 0
/-- what the reckoner may change -/
def WkE (t : Nat) (M N : Mem) : Prop := Eo (fun q => q = t ∨ q = t + 2) M N ∧ (∀ k, k ≠ 4 → mI N t k = mI M t k) ∧ mJ N t = mJ M t ∧ mR N t = mR M t ∧ mN N t = mN M t ∧ mI N (t + 2) = mI M (t + 2) ∧ mR N (t + 2) = mR M (t + 2) ∧ mN N (t + 2) = mN M (t + 2)
theorem WkE.rf {t : Nat} {M : Mem} : WkE t M M := ⟨Eo.rf, fun _ _ => rfl, rfl, rfl, rfl, rfl, rfl, rfl⟩
theorem WkE.tr {t : Nat} {M N K : Mem} (a : WkE t M N) (b : WkE t N K) : WkE t M K := ⟨a.1.tr b.1, fun k hk => (b.2.1 k hk).trans (a.2.1 k hk), b.2.2.1.trans a.2.2.1, b.2.2.2.1.trans a.2.2.2.1, b.2.2.2.2.1.trans a.2.2.2.2.1, b.2.2.2.2.2.1.trans a.2.2.2.2.2.1, b.2.2.2.2.2.2.1.trans a.2.2.2.2.2.2.1, b.2.2.2.2.2.2.2.trans a.2.2.2.2.2.2.2⟩
theorem WkE_h {t : Nat} {M : Mem} (v : Int32) : WkE t M (sI M t 4 v) := ⟨Eo_sI (Or.inl rfl), fun k hk => by rw [mI_sI, if_neg (fun q => hk q.2)], rfl, rfl, rfl, funext fun k => by rw [mI_sI, if_neg (by omega)], rfl, rfl⟩
theorem WkE_j {t k : Nat} {M : Mem} (v : Int64) : WkE t M (sJ M (t + 2) k v) := ⟨Eo_sJ (Or.inr rfl), fun k _ => rfl, funext fun k => by rw [mJ_sJ, if_neg (by omega)], rfl, rfl, rfl, rfl, rfl⟩
theorem push7 {t : Nat} {s : List Int64} {M : Mem} (v : Int64) (h : StR M t s) : So (FX7_push t v M) (fun N => StR N t (psh v s) ∧ WkE t M N) := by
  obtain ⟨h1, h2, h3⟩ := h
  unfold FX7_push psh
  refine So_jn1 ?_
  rw [h2]
  by_cases hl : s.length < 32
  · rw [if_neg (show ¬ (32 : Int32) ≤ Int32.ofNat s.length from nle (n := 32) hl (by decide)), if_pos hl]
    refine So_gd (inb_nn hl (by decide)) (So_nm (So_nm (So.ok ?_)))
    rw [nn_ix (by omega), mI_sJ, h2, s1]
    refine ⟨⟨by simp; omega, by rw [mI_sI, if_pos ⟨rfl, rfl⟩]; rfl, fun i hi => ?_⟩, (WkE_j v).tr (WkE_h _)⟩
    rw [mJ_sI, mJ_sJ]
    simp only [List.length_cons] at hi ⊢
    cases i with
    | zero => rw [if_pos ⟨trivial, by omega⟩]; rfl
    | succ i =>
      rw [if_neg (by omega), List.getD_cons_succ, ← h3 i (by omega)]
      congr 1; omega
  · have : s.length = 32 := by omega
    rw [if_pos (by rw [this]; decide), if_neg hl]
    exact So.ok ⟨⟨h1, h2, h3⟩, WkE.rf⟩
theorem pop7 {t : Nat} {s : List Int64} {M : Mem} (h : StR M t s) : So (FX7_pop t M) (fun r => r.1 = top s ∧ StR r.2 t s.tail ∧ WkE t M r.2) := by
  obtain ⟨h1, h2, h3⟩ := h
  unfold FX7_pop
  cases s with
  | nil =>
    rw [h2, if_neg (by decide)]
    exact So.ok ⟨rfl, ⟨h1, h2, h3⟩, WkE.rf⟩
  | cons a s =>
    simp only [List.length_cons] at h1 h2 h3
    have hne : ¬ Int32.ofNat (s.length + 1) = 0 := by
      rw [show (0 : Int32) = Int32.ofNat 0 from rfl, nn_eq (by omega) (by omega)]; omega
    rw [h2, if_pos hne, show Int32.ofNat (s.length + 1) - 1 = Int32.ofNat s.length by rw [← s1]; simp]
    refine So_nm ?_
    have e : mI (sI M t 4 (Int32.ofNat s.length)) t 4 = Int32.ofNat s.length := by rw [mI_sI, if_pos ⟨rfl, rfl⟩]
    rw [e]
    refine So_gd (inb_nn (by omega) (by decide)) (So.ok ⟨?_, ⟨?_, e, fun i hi => ?_⟩, WkE_h _⟩)
    · rw [nn_ix (by omega), mJ_sI]
      have := h3 0 (by omega)
      simpa [top] using this
    · show s.length ≤ 32; omega
    · have hi' : i < s.length := hi
      have := h3 (i + 1) (by omega)
      rw [mJ_sI, List.tail_cons]
      rw [show s.length + 1 - 1 - (i + 1) = s.length - 1 - i by omega] at this
      simpa using this

theorem join7 {t : Nat} {s : List Int64} {M : Mem} (op : Int32) (h : StR M t s) : So (FX7_join t op M) (fun r => WkE t M r.2 ∧ match jnP op s with | none => r.1 = 0 | some s' => r.1 = 1 ∧ StR r.2 t s') := by
  obtain ⟨h1, h2, h3⟩ := h
  unfold FX7_join
  rw [h2]
  match s, h1, h2, h3 with
  | [], h1, h2, h3 => rw [if_neg (by decide)]; exact So.ok ⟨WkE.rf, rfl⟩
  | [a], h1, h2, h3 => rw [if_neg (show ¬ (2 : Int32) ≤ Int32.ofNat [a].length from (by decide : ¬ (2 : Int32) ≤ Int32.ofNat 1))]; exact So.ok ⟨WkE.rf, rfl⟩
  | b :: a :: s, h1, h2, h3 =>
    simp only [List.length_cons] at h1 h2 h3 ⊢
    have hge : (2 : Int32) ≤ Int32.ofNat (s.length + 1 + 1) := (nn_le (a := 2) (by omega) (by omega)).mpr (by omega)
    rw [if_pos hge]
    have e2 : Int32.ofNat (s.length + 1 + 1) - 2 = Int32.ofNat s.length := by
      rw [show s.length + 1 + 1 = s.length + 2 from rfl, ← nn_add]; show _ + (2 : Int32) - 2 = _; simp
    have e1 : Int32.ofNat (s.length + 1 + 1) - 1 = Int32.ofNat (s.length + 1) := by
      rw [← s1]; simp
    have va : mJ M (t + 2) s.length = a := by have := h3 1 (by omega); simpa using this
    have vb : mJ M (t + 2) (s.length + 1) = b := by have := h3 0 (by omega); simpa using this
    rw [e2, e1, nn_ix (by omega), nn_ix (by omega), va, vb]
    refine So_gd (inb_nn (by omega) (by decide)) (So_nm (So_gd (inb_nn (by omega) (by decide)) (So_nm (So_jn0 ?_))))
    have fin : ¬ (b = 0 ∧ (op = 5 ∨ op = 6)) → ∀ v, v = bin op a b → So (nm (sI M t 4 (Int32.ofNat (s.length + 1))) fun M12 => gd (inb ((mI M12 t 4) - 1) 32) <| nm (sJ M12 (t + 2) (ix ((mI M12 t 4) - 1)) v) fun M14 => jn1 (fun (v16 : Int32) => gd (isB v16) <| some (v16, M14)) fun j17 => jn0 (j17 0) fun j20 => if 1000000000 < v then j20 else if v < (-1000000000) then j20 else j17 1) (fun r => WkE t M r.2 ∧ match jnP op (b :: a :: s) with | none => r.1 = 0 | some s' => r.1 = 1 ∧ StR r.2 t s') := by
      rintro hz v rfl
      refine So_nm ?_
      have f1 : mI (sI M t 4 (Int32.ofNat (s.length + 1))) t 4 - 1 = Int32.ofNat s.length := by
        rw [mI_sI, if_pos ⟨rfl, rfl⟩, ← s1]; simp
      rw [f1, nn_ix (by omega)]
      refine So_gd (inb_nn (by omega) (by decide)) (So_nm (So_jn1 (So_jn0 ?_)))
      have hJ : jnP op (b :: a :: s) = if 1000000000 < bin op a b ∨ bin op a b < -1000000000 then none else some (bin op a b :: s) := by
        unfold jnP
        rw [if_neg (by simp only [List.length_cons]; omega)]
        exact if_neg hz
      rw [hJ]
      have hW : WkE t M (sJ (sI M t 4 (Int32.ofNat (s.length + 1))) (t + 2) s.length (bin op a b)) := (WkE_h _).tr (WkE_j _)
      by_cases c1 : 1000000000 < bin op a b
      · rw [if_pos c1, if_pos (Or.inl c1)]
        exact So_gd (by decide) (So.ok ⟨hW, rfl⟩)
      · rw [if_neg c1]
        by_cases c2 : bin op a b < -1000000000
        · rw [if_pos c2, if_pos (Or.inr c2)]
          exact So_gd (by decide) (So.ok ⟨hW, rfl⟩)
        · rw [if_neg c2, if_neg (fun q => q.elim c1 c2)]
          refine So_gd (by decide) (So.ok ⟨hW, rfl, by simp only [List.length_cons]; omega, ?_, fun i hi => ?_⟩)
          · rw [mI_sJ, mI_sI, if_pos ⟨rfl, rfl⟩]; rfl
          · simp only [List.length_cons] at hi ⊢
            rw [mJ_sJ, mJ_sI]
            cases i with
            | zero => rw [if_pos ⟨rfl, by omega⟩]; rfl
            | succ i =>
              rw [if_neg (by omega)]
              have := h3 (i + 2) (by omega)
              rw [show s.length + 1 - 1 - (i + 1) = s.length + 1 + 1 - 1 - (i + 2) by omega, this]
              rfl
    have sws : ∀ (j10 : Int64 → Option (Int32 × Mem)) (Q : Int32 × Mem → Prop), ¬ (b = 0 ∧ (op = 5 ∨ op = 6)) → So (j10 (bin op a b)) Q → So (sw op.toInt 2 [
        nm (a + b) fun v25 =>
        j10 v25,
        nm (a - b) fun v26 =>
        j10 v26,
        nm (a * b) fun v27 =>
        j10 v27,
        jn1 (fun (v28 : Int64) =>
          j10 v28) fun j29 =>
        if ¬ b = 0 then
          gd (b != 0) <|
          j29 (a / b)
        else
        j29 0,
        jn1 (fun (v32 : Int64) =>
          j10 v32) fun j33 =>
        if ¬ b = 0 then
          gd (b != 0) <|
          j33 (lrm a b)
        else
        j33 0,
        jn1 (fun (v36 : Int64) =>
          j10 v36) fun j37 =>
        if b ≤ a then
          j37 0
        else
        j37 1,
        jn1 (fun (v39 : Int64) =>
          j10 v39) fun j40 =>
        if a ≤ b then
          j40 0
        else
        j40 1]
      (jn1 (fun (v22 : Int64) =>
          j10 v22) fun j23 =>
        if ¬ a = b then
          j23 0
        else
        j23 1)) Q := by
      intro j10 Q hz hj
      unfold bin at hj
      simp only [sw]
      by_cases c2 : op = 2
      · subst c2; rw [if_pos (by decide)]; exact hj
      rw [if_neg c2] at hj
      rw [if_neg (show ¬ op.toInt = 2 from fun q => c2 (Int32.toInt_inj.mp q))]
      by_cases c3 : op = 3
      · subst c3; rw [if_pos (by decide)]; exact hj
      rw [if_neg c3] at hj
      rw [if_neg (show ¬ op.toInt = 2 + 1 from fun q => c3 (Int32.toInt_inj.mp q))]
      by_cases c4 : op = 4
      · subst c4; rw [if_pos (by decide)]; exact hj
      rw [if_neg c4] at hj
      rw [if_neg (show ¬ op.toInt = 2 + 1 + 1 from fun q => c4 (Int32.toInt_inj.mp q))]
      by_cases c5 : op = 5
      · subst c5
        have hb : ¬ b = 0 := fun q => hz ⟨q, Or.inl rfl⟩
        rw [if_pos rfl, if_neg hb] at hj
        rw [if_pos (by decide)]; refine So_jn1 ?_; rw [if_pos hb]; exact So_gd (by simpa using hb) hj
      rw [if_neg c5] at hj
      rw [if_neg (show ¬ op.toInt = 2 + 1 + 1 + 1 from fun q => c5 (Int32.toInt_inj.mp q))]
      by_cases c6 : op = 6
      · subst c6
        have hb : ¬ b = 0 := fun q => hz ⟨q, Or.inr rfl⟩
        rw [if_pos rfl, if_neg hb] at hj
        rw [if_pos (by decide)]; refine So_jn1 ?_; rw [if_pos hb]; exact So_gd (by simpa using hb) hj
      rw [if_neg c6] at hj
      rw [if_neg (show ¬ op.toInt = 2 + 1 + 1 + 1 + 1 from fun q => c6 (Int32.toInt_inj.mp q))]
      by_cases c7 : op = 7
      · subst c7; rw [if_pos (by decide)]; refine So_jn1 ?_; rw [if_pos rfl] at hj
        by_cases hc : b ≤ a
        · rw [if_pos hc] at hj ⊢; exact hj
        · rw [if_neg hc] at hj ⊢; exact hj
      rw [if_neg c7] at hj
      rw [if_neg (show ¬ op.toInt = 2 + 1 + 1 + 1 + 1 + 1 from fun q => c7 (Int32.toInt_inj.mp q))]
      by_cases c8 : op = 8
      · subst c8; rw [if_pos (by decide)]; refine So_jn1 ?_; rw [if_pos rfl] at hj
        by_cases hc : a ≤ b
        · rw [if_pos hc] at hj ⊢; exact hj
        · rw [if_neg hc] at hj ⊢; exact hj
      rw [if_neg c8] at hj
      rw [if_neg (show ¬ op.toInt = 2 + 1 + 1 + 1 + 1 + 1 + 1 from fun q => c8 (Int32.toInt_inj.mp q))]
      refine So_jn1 ?_
      by_cases hc : a = b
      · rw [if_pos hc] at hj; rw [if_neg (fun q => q hc)]; exact hj
      · rw [if_neg hc] at hj; rw [if_pos hc]; exact hj
    have brk : b = 0 → op = 5 ∨ op = 6 → So (some ((0 : Int32), M)) (fun r => WkE t M r.2 ∧ match jnP op (b :: a :: s) with | none => r.1 = 0 | some s' => r.1 = 1 ∧ StR r.2 t s') := by
      intro hb ho
      have hJ : jnP op (b :: a :: s) = none := by
        unfold jnP
        rw [if_neg (by simp only [List.length_cons]; omega)]
        exact if_pos ⟨hb, ho⟩
      rw [hJ]; exact So.ok ⟨WkE.rf, rfl⟩
    by_cases hb : b = 0
    · rw [if_neg (fun q => q hb)]
      refine So_jn0 ?_
      by_cases c5 : op = 5
      · rw [if_pos c5]; exact brk hb (Or.inl c5)
      · rw [if_neg c5]
        by_cases c6 : op = 6
        · rw [if_neg (fun q => q c6)]; exact brk hb (Or.inr c6)
        · rw [if_pos c6]
          have hz : ¬ (b = 0 ∧ (op = 5 ∨ op = 6)) := fun q => q.2.elim c5 c6
          exact So_jn1 (sws _ _ hz (fin hz _ rfl))
    · rw [if_pos hb]
      have hz : ¬ (b = 0 ∧ (op = 5 ∨ op = 6)) := fun q => hb q.1
      exact So_jn1 (sws _ _ hz (fin hz _ rfl))
