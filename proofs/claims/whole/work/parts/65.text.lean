/-! ===== a whole text of a law ===== -/
def lawStep {τ : Type} (t : Nat) (E : Mem → Option τ) (M5 : Mem) (rec6 : Mem → Option τ) : Option τ :=
  jn0 (E M5) fun j8 => if ¬ (mI M5 t 19) = 0 then j8 else (FX12_isSign t 59 M5).bind fun r48 => if r48 = 0 then j8 else (FX12_next t M5).bind fun M49 => (FX12_readLaw t M49).bind fun M50 => rec6 M50
/-- the reference comes to the token at p with n clauses -/
def LSim (B : Nat → Nat) (L p lv n : Nat) (I : Nat → CI) : Prop := ∀ (u : Nat) (N0 : Mem) (τ : Type) (E : Mem → Option τ) (Q : τ → Prop), RE B L u 0 N0 0 0 [] → mI N0 u 21 = 0 → (∀ N' C fu, ML u 10 N0 N' → RE B L u 0 N' p lv C → mI N' u 21 = Int32.ofNat n → TxL (mI N' (u + 11)) (mI N' (u + 12)) (mI N' (u + 10)) C.length n I → fuel ≤ fu + n → So (wl1 (lawStep u E) fu N') Q) → So ((FX12_readLaw u N0).bind fun M4 => wl1 (lawStep u E) fuel M4) Q
def LFail (B : Nat → Nat) (L f : Nat) : Prop := ∀ (u : Nat) (N0 : Mem) (τ : Type) (E : Mem → Option τ) (Q : τ → Prop), RE B L u 0 N0 0 0 [] → mI N0 u 21 = 0 → (∀ N', ML u 10 N0 N' → Bad u N' f → So (E N') Q) → So ((FX12_readLaw u N0).bind fun M4 => wl1 (lawStep u E) fuel M4) Q
theorem ls_bad {τ : Type} {u f fu : Nat} {N : Mem} {E : Mem → Option τ} {Q : τ → Prop} (b : Bad u N f) (hf : 0 < fu) (h : So (E N) Q) : So (wl1 (lawStep u E) fu N) Q := by
  cases fu with
  | zero => omega
  | succ n =>
    show So (lawStep u E N (wl1 (lawStep u E) n)) Q
    unfold lawStep
    refine So_jn0 ?_
    rw [b.1, if_pos (by decide)]; exact h
theorem ls_end {τ : Type} {B : Nat → Nat} {L u p lv fu : Nat} {N : Mem} {C : List (Nat × Nat)} {E : Mem → Option τ} {Q : τ → Prop} (r : RE B L u 0 N p lv C) (hg : ¬ isG B L p 59) (hf : 0 < fu) (h : So (E N) Q) : So (wl1 (lawStep u E) fu N) Q := by
  cases fu with
  | zero => omega
  | succ n =>
    show So (lawStep u E N (wl1 (lawStep u E) n)) Q
    unfold lawStep
    refine So_jn0 ?_
    obtain ⟨v, e, s⟩ := isSign_r (c := 59) r.1 r.2.2.1 (by decide)
    rw [r.2.2.2.1, if_neg (by decide), show (59 : Int32) = Int32.ofNat 59 from rfl, e]
    refine So.bindE rfl ?_
    rcases s with ⟨_, z⟩ | ⟨rfl, _⟩
    · exact absurd z hg
    · rw [if_pos rfl]; exact h
theorem ls_more {τ : Type} {B : Nat → Nat} {L u p lv fu : Nat} {N : Mem} {C : List (Nat × Nat)} {E : Mem → Option τ} {Q : τ → Prop} (r : RE B L u 0 N p lv C) (hg : isG B L p 59) (hf : 0 < fu) (h : ∀ N1, PF u N N1 → RE B L u 0 N1 (tkE B L p) lv C → So ((FX12_readLaw u N1).bind fun M50 => wl1 (lawStep u E) (fu - 1) M50) Q) : So (wl1 (lawStep u E) fu N) Q := by
  cases fu with
  | zero => omega
  | succ n =>
    show So (lawStep u E N (wl1 (lawStep u E) n)) Q
    unfold lawStep
    refine So_jn0 ?_
    obtain ⟨v, e, s⟩ := isSign_r (c := 59) r.1 r.2.2.1 (by decide)
    rw [r.2.2.2.1, if_neg (by decide), show (59 : Int32) = Int32.ofNat 59 from rfl, e]
    refine So.bindE rfl ?_
    rcases s with ⟨rfl, _⟩ | ⟨_, z⟩
    · rw [if_neg (by decide)]
      exact So.bind (next_re r) (fun N1 h1 => h N1 h1.1 h1.2)
    · exact absurd hg z
/-- one clause more -/
theorem LGd.tx {B : Nat → Nat} {L u nc kind p' lv' : Nat} {N0 N N' : Mem} {C : List (Nat × Nat)} {f1 ft : Option Den} {I : Nat → CI} {p lv : Nat} (g : LGd B L u N nc C kind p' lv' f1 ft N') (m : ML u 10 N0 N) (r : RE B L u 0 N p lv C) (t : TxL (mI N (u + 11)) (mI N (u + 12)) (mI N (u + 10)) C.length nc I) (ci : CI) (h1 : ci.1 = kind) (h2 : ci.2.2.1 = f1) (h3 : ci.2.2.2.2 = ft) : ∃ C', ML u 10 N0 N' ∧ RE B L u 0 N' p' lv' C' ∧ mI N' u 21 = Int32.ofNat (nc + 1) ∧ TxL (mI N' (u + 11)) (mI N' (u + 12)) (mI N' (u + 10)) C'.length (nc + 1) (fun i => if i = nc then ci else I i) := by
  obtain ⟨m1, Y1, Yt, r1, e21, s1', s2, c0, c3, c4, c5, c6, cc⟩ := g
  refine ⟨C ++ Y1 ++ Yt, m.tr m1, r1, e21, fun i hi => ?_⟩
  have ag := lsP_agree (X := Y1 ++ Yt) r.2.2.2.2.2.2.2.1 (by rw [← List.append_assoc]; exact r1.2.2.2.2.2.2.2.1)
  by_cases z : i = nc
  · subst z
    refine ⟨C.length, C.length + Y1.length, C.length + Y1.length + Yt.length, ?_⟩
    simp only [if_true]
    refine ⟨by rw [h1]; exact c0, c3, c4, c5, c6, by simp only [List.length_append]; omega, ?_, ?_⟩
    · rw [h2]; exact s1'.sg r1.2.2.2.2.2.2.2.1
    · rw [h3]
      have := SgR.sg (K := C ++ Y1) (X := Yt) (Z := []) (f := ft) (M := N') (a := u + 11) (b := u + 12) (o := 0) (by rw [List.length_append]; exact s2) (by simpa using r1.2.2.2.2.2.2.2.1)
      simpa only [List.length_append] using this
  · obtain ⟨b1, b2, b3, x1, x2, x3, x4, x5, x6, x7, x8⟩ := t.cg (len' := (C ++ Y1 ++ Yt).length) (co' := mI N' (u + 11)) (ca' := mI N' (u + 12)) (rl' := mI N' (u + 10)) (fun k hk => ag k hk) (fun k hk => cc k hk) (by simp only [List.length_append]; omega) i (by omega)
    refine ⟨b1, b2, b3, ?_⟩
    simp only [if_neg z]
    exact ⟨x1, x2, x3, x4, x5, x6, x7, x8⟩
/-- the facts of a clause of a law -/
theorem clg_law {B : Nat → Nat} {L p lv kind times p1 lv1 p2 lv2 p3 p' lv' : Nat} {f1 f2 ft : Option Den} (h1 : HdOk 0 kind) (h2 : S1 B L 0 p lv kind p1 lv1 f1) (h3 : S2 B L 0 p1 lv1 kind p2 lv2 f2) (h4 : S3 B L 0 p2 times p3) (h5 : S4 B L 0 p3 lv2 p' lv' ft) : kind ≤ 6 ∧ f2 = none ∧ times = 1 ∧ S4 B L 0 p1 lv1 p' lv' ft := by
  have hk : kind ≤ 6 := by rcases h1 with ⟨_, z⟩ | ⟨z, _⟩ <;> omega
  rcases h3 with ⟨_, _, rfl, rfl, rfl⟩ | ⟨z, _⟩
  · rcases h4 with ⟨_, rfl, rfl⟩ | ⟨z, _⟩
    · exact ⟨hk, rfl, rfl, h5⟩
    · omega
  · omega
theorem LSim_one {B : Nat → Nat} {L kind p1 lv1 p' lv' : Nat} {f1 ft : Option Den} (hk : kind ≤ 6) (hw : isW B L 0 kind) (h1 : S1 B L 0 0 0 kind p1 lv1 f1) (h4 : S4 B L 0 p1 lv1 p' lv' ft) (ci : CI) (e1 : ci.1 = kind) (e2 : ci.2.2.1 = f1) (e3 : ci.2.2.2.2 = ft) : LSim B L p' lv' 1 (fun i => if i = 0 then ci else (0, 0, none, none, none)) := by
  intro u N0 τ E Q r h21 hk'
  refine So.bind (law_ok (nc := 0) r h21 (by decide) hk hw h1 h4) (fun N' g => ?_)
  obtain ⟨C', a1, a2, a3, a4⟩ := g.tx (N0 := N0) (I := fun _ => (0, 0, none, none, none)) ML.rf r (fun i hi => absurd hi (by omega)) ci e1 e2 e3
  exact hk' N' C' fuel a1 a2 a3 a4 (by omega)
theorem LFail_one {B : Nat → Nat} {L f : Nat} (hb : ClB B L 0 0 0 0 f) : LFail B L f := by
  intro u N0 τ E Q r h21 hk
  exact So.bind (law_bad (nc := 0) r h21 (by decide) hb) (fun N' g => ls_bad g.2 (by decide) (hk N' g.1 g.2))
theorem LSim_step {B : Nat → Nat} {L p lv n kind p1 lv1 p' lv' : Nat} {I : Nat → CI} {f1 ft : Option Den} (h : LSim B L p lv n I) (hn : n < 12) (hg : isG B L p 59) (hk : kind ≤ 6) (hw : isW B L (tkE B L p) kind) (h1 : S1 B L 0 (tkE B L p) lv kind p1 lv1 f1) (h4 : S4 B L 0 p1 lv1 p' lv' ft) (ci : CI) (e1 : ci.1 = kind) (e2 : ci.2.2.1 = f1) (e3 : ci.2.2.2.2 = ft) : LSim B L p' lv' (n + 1) (fun i => if i = n then ci else I i) := by
  intro u N0 τ E Q r h21 hk'
  refine h u N0 τ E Q r h21 (fun N' C fu a1 a2 a3 a4 a5 => ?_)
  have hfu : fuel = 1000000 := rfl
  refine ls_more a2 hg (by omega) (fun N1 p1' r1 => ?_)
  have c10 : mI N1 (u + 10) = mI N' (u + 10) := (p1'.1 (u + 10) (by omega) (by omega) (by omega) (by omega) (by omega)).1
  have ag := lsP_agree (X := []) a2.2.2.2.2.2.2.2.1 (by rw [List.append_nil]; exact r1.2.2.2.2.2.2.2.1)
  refine So.bind (law_ok r1 (by rw [p1'.2.1 21 (by decide)]; exact a3) hn hk hw h1 h4) (fun N2 g => ?_)
  obtain ⟨C', b1, b2, b3, b4⟩ := g.tx (N0 := N0) (I := I) (a1.tr (p1'.ml (Or.inl rfl))) r1 (a4.cg (fun k hk => ag k hk) (fun k _ => by rw [c10]) (Nat.le_refl _)) ci e1 e2 e3
  exact hk' N2 C' (fu - 1) b1 b2 b3 b4 (by omega)
theorem LFail_step {B : Nat → Nat} {L p lv n f : Nat} {I : Nat → CI} (h : LSim B L p lv n I) (hn : n ≤ 12) (hg : isG B L p 59) (hb : ClB B L 0 (tkE B L p) lv n f) : LFail B L f := by
  intro u N0 τ E Q r h21 hk'
  refine h u N0 τ E Q r h21 (fun N' C fu a1 a2 a3 a4 a5 => ?_)
  have hfu : fuel = 1000000 := rfl
  refine ls_more a2 hg (by omega) (fun N1 p1' r1 => ?_)
  exact So.bind (law_bad r1 (by rw [p1'.2.1 21 (by decide)]; exact a3) hn hb) (fun N2 g => ls_bad g.2 (by omega) (hk' N2 ((a1.tr (p1'.ml (Or.inl rfl))).tr g.1) g.2))
/-! the class -/
def CX (h : Nat) (M N : Mem) : Prop := (∀ a, a ≠ h → a ≠ h + 2 → a ≠ h + 3 → a ≠ h + 4 → Ea M N a) ∧ (∀ k, k ∉ ([2, 3, 4, 5, 6, 7, 8, 9] : List Nat) → mI N h k = mI M h k) ∧ (∀ k, k ≠ 2 → k ≠ 3 → k ≠ 4 → mI N (h + 2) k = mI M (h + 2) k) ∧ mN N = mN M ∧ (∀ a, mJ N a = mJ M a) ∧ (∀ a, mR N a = mR M a)
theorem CX.tr {h : Nat} {M N K : Mem} (a : CX h M N) (b : CX h N K) : CX h M K := ⟨fun q h1 h2 h3 h4 => (a.1 q h1 h2 h3 h4).tr (b.1 q h1 h2 h3 h4), fun k h1 => (b.2.1 k h1).trans (a.2.1 k h1), fun k h1 h2 h3 => (b.2.2.1 k h1 h2 h3).trans (a.2.2.1 k h1 h2 h3), b.2.2.2.1.trans a.2.2.2.1, fun q => (b.2.2.2.2.1 q).trans (a.2.2.2.2.1 q), fun q => (b.2.2.2.2.2 q).trans (a.2.2.2.2.2 q)⟩
theorem CT.cx {h : Nat} {M N : Mem} (a : CT h M N) : CX h M N := ⟨a.1, fun k hk => a.2.1 k (fun z => hk (by simp only [List.mem_cons, List.not_mem_nil, or_false] at z ⊢; omega)), a.2.2.1, a.2.2.2.1, a.2.2.2.2.1, a.2.2.2.2.2⟩
theorem CX_h {h k : Nat} {M : Mem} {v : Int32} (hk : k ∈ ([2, 3, 4, 5, 6, 7, 8, 9] : List Nat)) : CX h M (sI M h k v) := ⟨fun a x _ _ _ => Ea_sI x, fun j hj => by rw [mI_sI, if_neg (fun z : h = h ∧ j = k => hj (by rw [z.2]; exact hk))], fun j _ _ _ => by rw [mI_sI, if_neg (by omega)], rfl, fun _ => rfl, fun _ => rfl⟩
theorem CX_d {h k : Nat} {M : Mem} {v : Int32} (hk : k = 2 ∨ k = 3 ∨ k = 4) : CX h M (sI M (h + 2) k v) := ⟨fun a _ x _ _ => Ea_sI x, fun j hj => by rw [mI_sI, if_neg (by omega)], fun j a b c => by rw [mI_sI, if_neg (by omega)], rfl, fun _ => rfl, fun _ => rfl⟩
/-- what the class has read of a text -/
def TBO (f : Option Den) : Prop := ∀ g, f = some g → TB g
def TxG (B : Nat → Nat) (L h o : Nat) (N : Mem) (p lv n : Nat) (K : List (Nat × Nat)) (I : Nat → CI) : Prop := CS B L h o N p lv K 0 ∧ CM h N n ∧ n ≤ 12 ∧ TxC (mI N (h + 3)) (mI N (h + 4)) K.length n I ∧ (∀ i, i < n → HdOk o (I i).1) ∧ (o = 0 → mI N (h + 2) 4 = 0 → ∀ i, i < n → IndO (I i).2.2.1 ∧ IndO (I i).2.2.2.2) ∧ (∀ i, i < n → TBO (I i).2.2.2.2)
theorem ClG.tx {B : Nat → Nat} {L h o p lv nc : Nat} {M N : Mem} {K : List (Nat × Nat)} {I : Nat → CI} (g : ClG B L h o M p lv K 0 nc N) (s : CS B L h o M p lv K 0) (t : TxC (mI M (h + 3)) (mI M (h + 4)) K.length nc I) (hd : ∀ i, i < nc → HdOk o (I i).1) (hi : o = 0 → mI M (h + 2) 4 = 0 → ∀ i, i < nc → IndO (I i).2.2.1 ∧ IndO (I i).2.2.2.2) (hb : ∀ i, i < nc → TBO (I i).2.2.2.2) : ∃ (kind times p1 lv1 p2 lv2 p3 p' lv' : Nat) (f1 f2 ft : Option Den) (K' : List (Nat × Nat)), nc < 12 ∧ HdOk o kind ∧ isW B L p kind ∧ S1 B L o p lv kind p1 lv1 f1 ∧ S2 B L o p1 lv1 kind p2 lv2 f2 ∧ S3 B L o p2 times p3 ∧ S4 B L o p3 lv2 p' lv' ft ∧ TxG B L h o N p' lv' (nc + 1) K' (fun i => if i = nc then (kind, times, f1, f2, ft) else I i) := by
  obtain ⟨kind, times, p1, lv1, p2, lv2, p3, p', lv', f1, f2, ft, X1, X2, Xt, hn, h1, h2, h3, h4, h5, h6, s1', m1, g1, g2, g3, i1, i2, c0, c1, c2, c3, c4, c5, cc⟩ := g
  refine ⟨kind, times, p1, lv1, p2, lv2, p3, p', lv', f1, f2, ft, K ++ X1 ++ X2 ++ Xt, hn, h1, h2, h3, h4, h5, h6, s1', m1, by omega, fun i hi' => ?_, fun i hi' => ?_, fun y z i hi' => ?_, fun i hi' => ?_⟩
  · have kc := s1'.2.2.2.2.2.1.2.2.1
    have ag := cC_agree (X := X1 ++ X2 ++ Xt) s.2.2.2.2.2.1.2.2.1 (by simpa only [List.append_assoc] using kc)
    by_cases z : i = nc
    · subst z
      refine ⟨K.length, K.length + X1.length, K.length + X1.length + X2.length, K.length + X1.length + X2.length + Xt.length, ?_⟩
      simp only [if_true]
      refine ⟨c0, c1, c2, c3, c4, c5, by simp only [List.length_append]; omega, ?_, ?_, ?_⟩
      · exact SgC.sg (Z := X2 ++ Xt) g1 (by simpa only [List.append_assoc] using kc)
      · have := SgC.sg (K := K ++ X1) (X := X2) (Z := Xt) (f := f2) (cd := mI N (h + 3)) (by rw [List.length_append]; exact g2) kc
        simpa only [List.length_append] using this
      · have := SgC.sg (K := K ++ X1 ++ X2) (X := Xt) (Z := []) (f := ft) (cd := mI N (h + 3)) (by simp only [List.length_append]; exact g3) (by simpa using kc)
        simpa only [List.length_append] using this
    · obtain ⟨a1, a2, a3, a4, x1, x2, x3, x4, x5, x6, x7, x8, x9, x10⟩ := t.cg (len' := (K ++ X1 ++ X2 ++ Xt).length) (cd' := mI N (h + 3)) (cl' := mI N (h + 4)) (fun k hk => ag k hk) (fun k hk => cc k hk) (by simp only [List.length_append]; omega) i (by omega)
      refine ⟨a1, a2, a3, a4, ?_⟩
      simp only [if_neg z]
      exact ⟨x1, x2, x3, x4, x5, x6, x7, x8, x9, x10⟩
  · by_cases z : i = nc
    · simp only [if_pos z]; exact h1
    · simp only [if_neg z]; exact hd i (by omega)
  · by_cases z2 : i = nc
    · simp only [if_pos z2]; exact i1 y z
    · simp only [if_neg z2]
      exact hi y (chg_z s.2.2.2.2.2.1.2.2.2 i2 z) i (by omega)
  · by_cases z2 : i = nc
    · simp only [if_pos z2]
      intro g hg
      rcases h6 with ⟨_, _, _, z⟩ | ⟨_, f, z, hz, _⟩
      · rw [z] at hg; cases hg
      · rw [z] at hg; cases hg; exact hz
    · simp only [if_neg z2]; exact hb i (by omega)
