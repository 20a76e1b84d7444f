/-! ===== a whole text of orders ===== -/
def TxO (co ca rl : Nat → Int32) (len n : Nat) (I : Nat → CI) : Prop := ∀ i, i < n → ∃ b1 b2 b3 b4, rl (8 * i) = Int32.ofNat (aK (I i).1) ∧ rl (8 * i + 7) = Int32.ofNat (I i).2.1 ∧ b4 ≤ len ∧ sgR 1 co ca b1 b2 (I i).2.2.1 ∧ sgR 1 co ca b2 b3 (I i).2.2.2.1 ∧ sgR 1 co ca b3 b4 (I i).2.2.2.2 ∧ (((I i).2.2.1 = none ∧ rl (8 * i + 1) = rl (8 * i + 2)) ∨ ((I i).2.2.1 ≠ none ∧ rl (8 * i + 1) = Int32.ofNat b1 ∧ rl (8 * i + 2) = Int32.ofNat b2)) ∧ (((I i).2.2.2.1 = none ∧ rl (8 * i + 3) = rl (8 * i + 4)) ∨ ((I i).2.2.2.1 ≠ none ∧ rl (8 * i + 3) = Int32.ofNat b2 ∧ rl (8 * i + 4) = Int32.ofNat b3)) ∧ rl (8 * i + 5) = Int32.ofNat b3 ∧ rl (8 * i + 6) = Int32.ofNat b4
theorem TxO.cg {co ca rl co' ca' rl' : Nat → Int32} {len len' n : Nat} {I : Nat → CI} (h : TxO co ca rl len n I) (e1 : ∀ k, k < len → co' k = co k ∧ ca' k = ca k) (e2 : ∀ k, k < 8 * n → rl' k = rl k) (hl : len ≤ len') : TxO co' ca' rl' len' n I := by
  intro i hi
  obtain ⟨b1, b2, b3, b4, h1, h2, h3, h4, h5, h6, h7, h8, h9, h10⟩ := h i hi
  have l1 := h4.le
  have l2 := h5.le
  have l3 := h6.le
  refine ⟨b1, b2, b3, b4, ?_, ?_, by omega, h4.cg (fun k hk => e1 k (by omega)), h5.cg (fun k hk => e1 k (by omega)), h6.cg (fun k hk => e1 k (by omega)), ?_, ?_, ?_, ?_⟩
  · rw [e2 _ (by omega)]; exact h1
  · rw [e2 _ (by omega)]; exact h2
  · rw [e2 _ (by omega), e2 _ (by omega)]; exact h7
  · rw [e2 _ (by omega), e2 _ (by omega)]; exact h8
  · rw [e2 _ (by omega)]; exact h9
  · rw [e2 _ (by omega)]; exact h10
def ordStep {τ : Type} (t : Nat) (E : Mem → Option τ) (M5 : Mem) (rec6 : Mem → Option τ) : Option τ :=
  jn0 (E M5) fun j8 => if ¬ (mI M5 t 19) = 0 then j8 else (FX12_isSign t 59 M5).bind fun r48 => if r48 = 0 then j8 else (FX12_next t M5).bind fun M49 => (FX12_readOrder t M49).bind fun M50 => rec6 M50
def OSim (B : Nat → Nat) (L p lv n : Nat) (I : Nat → CI) : Prop := ∀ (u : Nat) (N0 : Mem) (τ : Type) (E : Mem → Option τ) (Q : τ → Prop), RE B L u 1 N0 0 0 [] → mI N0 u 21 = 0 → (∀ N' C fu, ML u 40 N0 N' → RE B L u 1 N' p lv C → mI N' u 21 = Int32.ofNat n → TxO (mI N' (u + 11)) (mI N' (u + 12)) (mI N' (u + 40)) C.length n I → fuel ≤ fu + n → So (wl1 (ordStep u E) fu N') Q) → So ((FX12_readOrder u N0).bind fun M4 => wl1 (ordStep u E) fuel M4) Q
def OFail (B : Nat → Nat) (L f : Nat) : Prop := ∀ (u : Nat) (N0 : Mem) (τ : Type) (E : Mem → Option τ) (Q : τ → Prop), RE B L u 1 N0 0 0 [] → mI N0 u 21 = 0 → (∀ N', ML u 40 N0 N' → Bad u N' f → So (E N') Q) → So ((FX12_readOrder u N0).bind fun M4 => wl1 (ordStep u E) fuel M4) Q
theorem os_bad {τ : Type} {u f fu : Nat} {N : Mem} {E : Mem → Option τ} {Q : τ → Prop} (b : Bad u N f) (hf : 0 < fu) (h : So (E N) Q) : So (wl1 (ordStep u E) fu N) Q := by
  cases fu with
  | zero => omega
  | succ n =>
    show So (ordStep u E N (wl1 (ordStep u E) n)) Q
    unfold ordStep
    refine So_jn0 ?_
    rw [b.1, if_pos (by decide)]; exact h
theorem os_end {τ : Type} {B : Nat → Nat} {L u p lv fu : Nat} {N : Mem} {C : List (Nat × Nat)} {E : Mem → Option τ} {Q : τ → Prop} (r : RE B L u 1 N p lv C) (hg : ¬ isG B L p 59) (hf : 0 < fu) (h : So (E N) Q) : So (wl1 (ordStep u E) fu N) Q := by
  cases fu with
  | zero => omega
  | succ n =>
    show So (ordStep u E N (wl1 (ordStep u E) n)) Q
    unfold ordStep
    refine So_jn0 ?_
    obtain ⟨v, e, s⟩ := isSign_r (c := 59) r.1 r.2.2.1 (by decide)
    rw [r.2.2.2.1, if_neg (by decide), show (59 : Int32) = Int32.ofNat 59 from rfl, e]
    refine So.bindE rfl ?_
    rcases s with ⟨_, z⟩ | ⟨rfl, _⟩
    · exact absurd z hg
    · rw [if_pos rfl]; exact h
theorem os_more {τ : Type} {B : Nat → Nat} {L u p lv fu : Nat} {N : Mem} {C : List (Nat × Nat)} {E : Mem → Option τ} {Q : τ → Prop} (r : RE B L u 1 N p lv C) (hg : isG B L p 59) (hf : 0 < fu) (h : ∀ N1, PF u N N1 → RE B L u 1 N1 (tkE B L p) lv C → So ((FX12_readOrder u N1).bind fun M50 => wl1 (ordStep u E) (fu - 1) M50) Q) : So (wl1 (ordStep u E) fu N) Q := by
  cases fu with
  | zero => omega
  | succ n =>
    show So (ordStep u E N (wl1 (ordStep u E) n)) Q
    unfold ordStep
    refine So_jn0 ?_
    obtain ⟨v, e, s⟩ := isSign_r (c := 59) r.1 r.2.2.1 (by decide)
    rw [r.2.2.2.1, if_neg (by decide), show (59 : Int32) = Int32.ofNat 59 from rfl, e]
    refine So.bindE rfl ?_
    rcases s with ⟨rfl, _⟩ | ⟨_, z⟩
    · rw [if_neg (by decide)]
      exact So.bind (next_re r) (fun N1 h1 => h N1 h1.1 h1.2)
    · exact absurd hg z
theorem OGd.tx {B : Nat → Nat} {L u nc kind times p' lv' : Nat} {N0 N N' : Mem} {C : List (Nat × Nat)} {f1 f2 ft : Option Den} {I : Nat → CI} {p lv : Nat} (g : OGd B L u N nc C kind times p' lv' f1 f2 ft N') (m : ML u 40 N0 N) (r : RE B L u 1 N p lv C) (t : TxO (mI N (u + 11)) (mI N (u + 12)) (mI N (u + 40)) C.length nc I) : ∃ C', ML u 40 N0 N' ∧ RE B L u 1 N' p' lv' C' ∧ mI N' u 21 = Int32.ofNat (nc + 1) ∧ TxO (mI N' (u + 11)) (mI N' (u + 12)) (mI N' (u + 40)) C'.length (nc + 1) (fun i => if i = nc then (kind, times, f1, f2, ft) else I i) := by
  obtain ⟨m1, Y1, Y2, Yt, r1, e21, s1', s2, s3, c0, c1, c3, c5, c6, c7, cc⟩ := g
  refine ⟨C ++ Y1 ++ Y2 ++ Yt, m.tr m1, r1, e21, fun i hi => ?_⟩
  have hls : lsP N' (u + 11) (u + 12) (C ++ Y1 ++ Y2 ++ Yt) := r1.2.2.2.2.2.2.2.1
  have ag := lsP_agree (X := Y1 ++ Y2 ++ Yt) r.2.2.2.2.2.2.2.1 (by simpa only [List.append_assoc] using hls)
  by_cases z : i = nc
  · subst z
    refine ⟨C.length, C.length + Y1.length, C.length + Y1.length + Y2.length, C.length + Y1.length + Y2.length + Yt.length, ?_⟩
    simp only [if_true]
    refine ⟨c0, c7, by simp only [List.length_append]; omega, ?_, ?_, ?_, c1, c3, c5, c6⟩
    · exact SgR.sg (Z := Y2 ++ Yt) s1' (by simpa only [List.append_assoc] using hls)
    · have := SgR.sg (K := C ++ Y1) (X := Y2) (Z := Yt) (f := f2) (M := N') (a := u + 11) (b := u + 12) (o := 1) (by rw [List.length_append]; exact s2) hls
      simpa only [List.length_append] using this
    · have := SgR.sg (K := C ++ Y1 ++ Y2) (X := Yt) (Z := []) (f := ft) (M := N') (a := u + 11) (b := u + 12) (o := 1) (by simp only [List.length_append]; exact s3) (by simpa using hls)
      simpa only [List.length_append] using this
  · have := t.cg (len' := (C ++ Y1 ++ Y2 ++ Yt).length) (co' := mI N' (u + 11)) (ca' := mI N' (u + 12)) (rl' := mI N' (u + 40)) (fun k hk => ag k hk) (fun k hk => cc k hk) (by simp only [List.length_append]; omega) i (by omega)
    simp only [if_neg z]
    exact this
theorem OSim_one {B : Nat → Nat} {L kind times p1 lv1 p2 lv2 p3 p' lv' : Nat} {f1 f2 ft : Option Den} (hk : 7 ≤ kind ∧ kind ≤ 10) (hw : isW B L 0 kind) (h1 : S1 B L 1 0 0 kind p1 lv1 f1) (h2 : S2 B L 1 p1 lv1 kind p2 lv2 f2) (h3 : S3 B L 1 p2 times p3) (h4 : S4 B L 1 p3 lv2 p' lv' ft) : OSim B L p' lv' 1 (fun i => if i = 0 then (kind, times, f1, f2, ft) else (0, 0, none, none, none)) := by
  intro u N0 τ E Q r h21 hk'
  refine So.bind (ord_ok (nc := 0) r h21 (by decide) hk hw h1 h2 h3 h4) (fun N' g => ?_)
  obtain ⟨C', a1, a2, a3, a4⟩ := g.tx (N0 := N0) (I := fun _ => (0, 0, none, none, none)) ML.rf r (fun i hi => absurd hi (by omega))
  exact hk' N' C' fuel a1 a2 a3 a4 (by omega)
theorem OFail_one {B : Nat → Nat} {L f : Nat} (hb : ClB B L 1 0 0 0 f) : OFail B L f := by
  intro u N0 τ E Q r h21 hk
  exact So.bind (ord_bad (nc := 0) r h21 (by decide) hb) (fun N' g => os_bad g.2 (by decide) (hk N' g.1 g.2))
theorem OSim_step {B : Nat → Nat} {L p lv n kind times p1 lv1 p2 lv2 p3 p' lv' : Nat} {I : Nat → CI} {f1 f2 ft : Option Den} (h : OSim B L p lv n I) (hn : n < 12) (hg : isG B L p 59) (hk : 7 ≤ kind ∧ kind ≤ 10) (hw : isW B L (tkE B L p) kind) (h1 : S1 B L 1 (tkE B L p) lv kind p1 lv1 f1) (h2 : S2 B L 1 p1 lv1 kind p2 lv2 f2) (h3 : S3 B L 1 p2 times p3) (h4 : S4 B L 1 p3 lv2 p' lv' ft) : OSim B L p' lv' (n + 1) (fun i => if i = n then (kind, times, f1, f2, ft) else I i) := by
  intro u N0 τ E Q r h21 hk'
  refine h u N0 τ E Q r h21 (fun N' C fu a1 a2 a3 a4 a5 => ?_)
  have hfu : fuel = 1000000 := rfl
  refine os_more a2 hg (by omega) (fun N1 p1' r1 => ?_)
  have c40 : mI N1 (u + 40) = mI N' (u + 40) := (p1'.1 (u + 40) (by omega) (by omega) (by omega) (by omega) (by omega)).1
  have ag := lsP_agree (X := []) a2.2.2.2.2.2.2.2.1 (by rw [List.append_nil]; exact r1.2.2.2.2.2.2.2.1)
  refine So.bind (ord_ok r1 (by rw [p1'.2.1 21 (by decide)]; exact a3) hn hk hw h1 h2 h3 h4) (fun N2 g => ?_)
  obtain ⟨C', b1, b2, b3, b4⟩ := g.tx (N0 := N0) (I := I) (a1.tr (p1'.ml (Or.inr (by decide)))) r1 (a4.cg (fun k hk => ag k hk) (fun k _ => by rw [c40]) (Nat.le_refl _))
  exact hk' N2 C' (fu - 1) b1 b2 b3 b4 (by omega)
theorem OFail_step {B : Nat → Nat} {L p lv n f : Nat} {I : Nat → CI} (h : OSim B L p lv n I) (hn : n ≤ 12) (hg : isG B L p 59) (hb : ClB B L 1 (tkE B L p) lv n f) : OFail B L f := by
  intro u N0 τ E Q r h21 hk'
  refine h u N0 τ E Q r h21 (fun N' C fu a1 a2 a3 a4 a5 => ?_)
  have hfu : fuel = 1000000 := rfl
  refine os_more a2 hg (by omega) (fun N1 p1' r1 => ?_)
  exact So.bind (ord_bad r1 (by rw [p1'.2.1 21 (by decide)]; exact a3) hn hb) (fun N2 g => os_bad g.2 (by omega) (hk' N2 ((a1.tr (p1'.ml (Or.inr (by decide)))).tr g.1) g.2))
theorem ow_bind {τ : Type} {u : Nat} {E : Mem → Option τ} : ∀ n M, wl1 (ordStep u E) n M = (wl1 (ordStep u (fun N => some N)) n M).bind E := by
  intro n
  induction n with
  | zero => intro M; rfl
  | succ n ih =>
    intro M
    show ordStep u E M (wl1 (ordStep u E) n) = (ordStep u (fun N => some N) M (wl1 (ordStep u (fun N => some N)) n)).bind E
    unfold ordStep
    rw [jb, jb]
    by_cases z : ¬ mI M u 19 = 0
    · rw [if_pos z, if_pos z]; rfl
    rw [if_neg z, if_neg z]
    cases FX12_isSign u 59 M with
    | none => rfl
    | some r =>
      rw [ob rfl, ob rfl]
      by_cases y : r = 0
      · rw [if_pos y, if_pos y]; rfl
      rw [if_neg y, if_neg y]
      cases FX12_next u M with
      | none => rfl
      | some M1 =>
        rw [ob rfl, ob rfl]
        cases FX12_readOrder u M1 with
        | none => rfl
        | some M2 => rw [ob rfl, ob rfl]; exact ih M2
def ordX (u : Nat) (N0 : Mem) : Option Mem := (FX12_readOrder u N0).bind fun M4 => wl1 (ordStep u (fun N => some N)) fuel M4
theorem ordX_eq {τ : Type} {u : Nat} {N0 : Mem} {E : Mem → Option τ} : ((FX12_readOrder u N0).bind fun M4 => wl1 (ordStep u E) fuel M4) = (ordX u N0).bind E := by
  unfold ordX
  cases FX12_readOrder u N0 with
  | none => rfl
  | some M => rw [ob rfl, ob rfl]; exact ow_bind fuel M
theorem q_ordX {u : Nat} {c : Int32} {M : Mem} (h : Qt u c M) : Hp (Qt u c) (ordX u M) := by
  unfold ordX ordStep
  (repeat (first | with_reducible assumption | with_reducible refine Hp_nm ?_ | with_reducible refine Hp_gd ?_ | with_reducible refine Hp_ite ?_ ?_ | with_reducible refine Hp_some ?_ | with_reducible exact Hp_none | with_reducible refine Hp_jn0 ?_ (fun _ _ => ?_) | with_reducible refine Hp_jn1M (u := u) (c := c) ?_ (fun _ _ => ?_) | with_reducible refine Hp_jn1 ?_ (fun _ _ => ?_) | with_reducible refine Hp_jn2M (u := u) (c := c) ?_ (fun _ _ => ?_) | with_reducible refine Hp_wl1M (u := u) (c := c) (fun _ _ _ _ => ?_) _ ?_ | with_reducible refine Hp_wl2M (u := u) (c := c) (fun _ _ _ _ _ => ?_) _ ?_ | with_reducible refine Hp_wl2 (fun _ _ _ _ => ?_) _ | with_reducible refine Hp_bindM (u := u) (c := c) ?_ (fun _ _ => ?_) | with_reducible refine Hp_bind0 (fun _ => ?_) | with_reducible refine Hp_bdM (u := u) (c := c) ?_ (fun _ _ _ => ?_) | with_reducible refine Qt_2 ?_ | with_reducible refine Qt_j ?_ | with_reducible exact Qt_f | with_reducible refine Qt_s ?_ ?_ ?_ | with_reducible refine Qt_a ?_ ?_ | with_reducible refine q_next ?_ | with_reducible refine q_must ?_ | with_reducible refine q_settle ?_ | with_reducible refine q_emit ?_ | with_reducible refine q_push ?_ | with_reducible refine q_bTest ?_ | with_reducible refine q_bSum ?_ | with_reducible refine q_part ?_ | with_reducible refine q_leaf ?_ | with_reducible refine q_num ?_ | with_reducible refine q_open ?_ | with_reducible refine q_plain ?_ | with_reducible refine q_expr ?_ | with_reducible refine q_law ?_ | with_reducible refine q_sum ?_ | with_reducible refine q_ord ?_ | with_reducible refine q_end ?_ | with_reducible apply_assumption | with_reducible intro _ | (show _ ≠ _; omega)))
theorem ord_run {B : Nat → Nat} {L u p lv n : Nat} {I : Nat → CI} {N0 : Mem} (h : OSim B L p lv n I) (hn : n ≤ 12) (hg : ¬ isG B L p 59) (r : RE B L u 1 N0 0 0 []) (h21 : mI N0 u 21 = 0) (hq : Qt u (-1) N0) : ∃ N' C, ordX u N0 = some N' ∧ ML u 40 N0 N' ∧ RE B L u 1 N' p lv C ∧ mI N' u 21 = Int32.ofNat n ∧ TxO (mI N' (u + 11)) (mI N' (u + 12)) (mI N' (u + 40)) C.length n I ∧ mI N' u 18 = -1 := by
  have hfu : fuel = 1000000 := rfl
  have s : So (ordX u N0) (fun N' => ∃ C, ML u 40 N0 N' ∧ RE B L u 1 N' p lv C ∧ mI N' u 21 = Int32.ofNat n ∧ TxO (mI N' (u + 11)) (mI N' (u + 12)) (mI N' (u + 40)) C.length n I) :=
    h u N0 Mem (fun N => some N) _ r h21 (fun N' C fu a1 a2 a3 a4 a5 => os_end a2 hg (by omega) (So.ok ⟨C, a1, a2, a3, a4⟩))
  obtain ⟨N', e, C, a1, a2, a3, a4⟩ := s
  exact ⟨N', C, e, a1, a2, a3, a4, q_ordX hq N' e a2.2.2.2.1⟩
theorem ord_flt {B : Nat → Nat} {L u f : Nat} {N0 : Mem} (h : OFail B L f) (r : RE B L u 1 N0 0 0 []) (h21 : mI N0 u 21 = 0) : ∃ N', ordX u N0 = some N' ∧ ML u 40 N0 N' ∧ Bad u N' f := by
  have s : So (ordX u N0) (fun N' => ML u 40 N0 N' ∧ Bad u N' f) := h u N0 Mem (fun N => some N) _ r h21 (fun N' a1 a2 => So.ok ⟨a1, a2⟩)
  obtain ⟨N', e, a1, a2⟩ := s
  exact ⟨N', e, a1, a2⟩
/-- what is read of orders by both -/
def OrdS (B : Nat → Nat) (L p lv n : Nat) (I : Nat → CI) : Prop := OSim B L p lv n I ∧ n ≤ 12 ∧ ∀ i, i < n → (7 ≤ (I i).1 ∧ (I i).1 ≤ 10) ∧ (1 ≤ (I i).2.1 ∧ (I i).2.1 ≤ 20) ∧ ((I i).1 = 9 ↔ (I i).2.2.1 = none) ∧ (((I i).1 = 7 ∨ (I i).1 = 8) ↔ (I i).2.2.2.1 ≠ none)
theorem ord_f {B : Nat → Nat} {L p lv kind times p1 lv1 p2 lv2 p3 : Nat} {f1 f2 : Option Den} (h : HdOk 1 kind) (h1 : S1 B L 1 p lv kind p1 lv1 f1) (h2 : S2 B L 1 p1 lv1 kind p2 lv2 f2) (h3 : S3 B L 1 p2 times p3) : (7 ≤ kind ∧ kind ≤ 10) ∧ (1 ≤ times ∧ times ≤ 20) ∧ (kind = 9 ↔ f1 = none) ∧ ((kind = 7 ∨ kind = 8) ↔ f2 ≠ none) := by
  have hk : 7 ≤ kind ∧ kind ≤ 10 := by rcases h with ⟨z, _⟩ | ⟨_, z⟩ <;> omega
  refine ⟨hk, ?_, ?_, ?_⟩
  · rcases h3 with ⟨_, rfl, _⟩ | ⟨_, _, _, a, b, rfl, _⟩
    · omega
    · exact ⟨a, b⟩
  · rcases h1 with ⟨z, _, _, rfl⟩ | ⟨_, n9, f, rfl, _⟩
    · exact ⟨fun _ => rfl, fun _ => by omega⟩
    · exact ⟨fun z => absurd z n9, fun z => by cases z⟩
  · rcases h2 with ⟨z1, z2, _, _, rfl⟩ | ⟨z, _, f, rfl, _⟩
    · exact ⟨fun w => by omega, fun w => absurd rfl w⟩
    · exact ⟨fun _ => by simp, fun _ => z⟩
theorem readOrd_c {B : Nat → Nat} {L h : Nat} {M : Mem} (T : TpC B L h M) (n3 : mN M (h + 3) = 800) (n4 : mN M (h + 4) = 72) : So (FX5_readText h 0 M) (fun r => CX h M r.2 ∧ mI r.2 h 2 = 0 ∧ ((r.1 = 1 ∧ ∃ N p lv n K I, TxG B L h 1 N p lv n K I ∧ 1 ≤ n ∧ OrdS B L p lv n I ∧ ¬ isG B L p 59 ∧ tkK B L p = 0 ∧ r.2 = sI (sI N h 3 (-1)) h 2 0) ∨ (r.1 = 0 ∧ ∃ f, mI r.2 h 3 = Int32.ofNat f ∧ (OFail B L f ∨ ∃ p lv n I, OrdS B L p lv n I ∧ ¬ isG B L p 59 ∧ tkK B L p ≠ 0 ∧ f = tkS B L p)))) := by
  have R := readText_c (B := B) (L := L) (h := h) (o := 1) (M := M) (OrdS B L) (OFail B L) (Or.inr rfl) T n3 n4 ?_ (fun f hf => OFail_one hf) ?_ (fun p lv n I f s hn hg hb => OFail_step s.1 hn hg hb)
  · exact R
  · intro kind times p1 lv1 p2 lv2 p3 p' lv' f1 f2 ft a1 a2 a3 a4 a5 a6
    have hf := ord_f a1 a3 a4 a5
    refine ⟨OSim_one hf.1 a2 a3 a4 a5 a6, by omega, fun i hi => ?_⟩
    have : i = 0 := by omega
    subst this
    simp only [if_true]
    exact hf
  · intro p lv n I kind times p1 lv1 p2 lv2 p3 p' lv' f1 f2 ft s hn hg a1 a2 a3 a4 a5 a6
    have hf := ord_f a1 a3 a4 a5
    refine ⟨OSim_step s.1 hn hg hf.1 a2 a3 a4 a5 a6, by omega, fun i hi => ?_⟩
    by_cases z : i = n
    · simp only [if_pos z]
      exact hf
    · simp only [if_neg z]
      exact s.2.2 i (by omega)
