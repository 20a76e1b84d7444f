/-! ===== the reference behind a sum, behind a test, ahead of a test ===== -/
def OpG (B : Nat → Nat) (L p op : Nat) : Prop := (isG B L p 43 ∧ op = 20) ∨ (isG B L p 45 ∧ op = 21) ∨ (isG B L p 42 ∧ op = 22) ∨ (isG B L p 47 ∧ op = 23) ∨ (isG B L p 37 ∧ op = 24)
def CmG (B : Nat → Nat) (L p op : Nat) : Prop := (isG B L p 60 ∧ op = 25) ∨ (isG B L p 62 ∧ op = 26) ∨ (isG B L p 61 ∧ op = 27)
def innP (P : List (Nat × Nat)) : Int32 := P.foldl (fun a q => if q.1 < 31 then a else Int32.ofNat q.1) (-1)
theorem innP_app (P : List (Nat × Nat)) : ∀ R : List (Nat × Nat), (∀ q, q ∈ R → q.1 < 31) → innP (P ++ R) = innP P := by
  intro R h
  unfold innP
  rw [List.foldl_append]
  generalize P.foldl (fun a q => if q.1 < 31 then a else Int32.ofNat q.1) (-1) = v
  induction R with
  | nil => rfl
  | cons q R ih =>
    show R.foldl _ (if q.1 < 31 then v else _) = v
    rw [if_pos (h q List.mem_cons_self)]
    exact ih (fun x hx => h x (List.mem_cons_of_mem _ hx))
theorem innP_br (P : List (Nat × Nat)) (op x : Nat) (h : 31 ≤ op) : innP (P ++ [(op, x)]) = Int32.ofNat op := by
  unfold innP
  rw [List.foldl_append]
  show (if op < 31 then _ else _) = _
  rw [if_neg (by omega)]
theorem cmpR_app : ∀ (R P : List (Nat × Nat)), (∀ q, q ∈ R → 20 ≤ q.1 ∧ q.1 ≤ 24) → cmpR (R ++ P) = cmpR P
  | [], _, _ => rfl
  | q :: R, P, h => by
    show cmpR (q :: (R ++ P)) = _
    rw [cmpR_cons, if_pos (h q List.mem_cons_self)]
    exact cmpR_app R P (fun x hx => h x (List.mem_cons_of_mem _ hx))
theorem RS.tkne {B : Nat → Nat} {L p c : Nat} (h : isG B L p c) : tkK B L p ≠ 0 := by rw [h.1]; decide
theorem isG_inj {B : Nat → Nat} {L p c d : Nat} (h : isG B L p c) (h2 : isG B L p d) : c = d := h.2.symm.trans h2.2
theorem last_lt {P : List (Nat × Nat)} {n : Nat} {R : List (Nat × Nat)} (hP : P = [] ∨ bindP (P.getD (P.length - 1) (0, 0)).1 < n) (hR : R = [] ∨ ∃ a R', R = a :: R' ∧ bindP a.1 < n) : (P ++ R.reverse) = [] ∨ bindP ((P ++ R.reverse).getD ((P ++ R.reverse).length - 1) (0, 0)).1 < n := by
  rcases hR with rfl | ⟨a, R', rfl, ha⟩
  · simpa using hP
  · refine Or.inr ?_
    rw [List.reverse_cons, ← List.append_assoc]
    have := gD_app_r (X := P ++ R'.reverse) (Y := [a]) (i := 0)
    simp only [List.length_append, List.length_cons, List.length_nil, Nat.add_zero] at this ⊢
    rw [show P.length + R'.reverse.length + (0 + 1) - 1 = P.length + R'.reverse.length by omega, this]
    exact ha
/-- what may come behind a sum -/
def BSum (B : Nat → Nat) (L u : Nat) (tst : Int32) (N : Mem) (p lv od : Nat) (C P R : List (Nat × Nat)) (r : Int32 × Mem) : Prop :=
  (∃ op R1 R2, OpG B L p op ∧ R = R1 ++ R2 ∧ (∀ q, q ∈ R1 → bindP op ≤ bindP q.1) ∧ (R2 = [] ∨ ∃ a R', R2 = a :: R' ∧ bindP a.1 < bindP op) ∧ r.1 = 1 ∧ RS B L u r.2 (tkE B L p) lv od (flushP C R1) ((P ++ R2.reverse) ++ [(op, 0)])) ∨
  ((∀ op, ¬ OpG B L p op) ∧
    ((innP P = 32 ∧ ((isG B L p 93 ∧ r.1 = 3 ∧ ∃ P', P = P' ++ [(32, 0)] ∧ RS B L u r.2 (tkE B L p) lv (od - 1) (flushP C R) P') ∨ (¬ isG B L p 93 ∧ RB u r.2 (tkS B L p)))) ∨
     (innP P = -1 ∧ tst = 0 ∧ r = (4, N)) ∨
     (innP P ≠ 32 ∧ ¬ (innP P = -1 ∧ tst = 0) ∧ ((cmpR P.reverse = true ∧ r = (2, N)) ∨ (cmpR P.reverse = false ∧ ((∃ op, CmG B L p op ∧ r.1 = 1 ∧ RS B L u r.2 (tkE B L p) lv od (flushP C R) (P ++ [(op, 0)])) ∨ ((∀ op, ¬ CmG B L p op) ∧ RB u r.2 (tkS B L p))))))))
theorem RS.od {B : Nat → Nat} {L u p lv od od' : Nat} {N : Mem} {C P P' : List (Nat × Nat)} (h : RS B L u N p lv od C P) (hP : ∃ a, P = P' ++ [a]) (ho : od' ≤ 8) (n : Int32) (hn : n = Int32.ofNat P'.length) : RS B L u (sI (sI N u 29 n) u 30 (Int32.ofNat od')) p lv od' C P' := by
  obtain ⟨a1, a2, a3, a4, a5, a6, a7, a8, a9, a10⟩ := h
  obtain ⟨a, rfl⟩ := hP
  have f : ∀ k, k ≠ 29 → k ≠ 30 → mI (sI (sI N u 29 n) u 30 (Int32.ofNat od')) u k = mI N u k := fun k h1 h2 => by
    rw [mI_sI, if_neg (fun z => h2 z.2), mI_sI, if_neg (fun z => h1 z.2)]
  have g : ∀ o, o ≠ 0 → mI (sI (sI N u 29 n) u 30 (Int32.ofNat od')) (u + o) = mI N (u + o) := fun o h1 => funext fun k => by
    rw [mI_sI, if_neg (by omega), mI_sI, if_neg (by omega)]
  refine ⟨⟨a1.1, by rw [f 13 (by decide) (by decide)]; exact a1.2.1, fun k hk => by rw [g 9 (by decide)]; exact a1.2.2 k hk⟩, a2, ⟨?_, ?_, ?_, a3.2.2.2⟩, ?_, ?_, a6, by rw [mI_sI, if_pos ⟨rfl, rfl⟩], ho, ⟨?_, ?_, ?_, ?_, ?_⟩, ?_⟩
  · rw [f 14 (by decide) (by decide)]; exact a3.1
  · rw [f 15 (by decide) (by decide)]; exact a3.2.1
  · rw [f 16 (by decide) (by decide)]; exact a3.2.2.1
  · rw [f 19 (by decide) (by decide)]; exact a4
  · rw [f 26 (by decide) (by decide)]; exact a5
  · rw [f 23 (by decide) (by decide)]; exact a9.1
  · exact a9.2.1.keep (g 11 (by decide)) (g 12 (by decide))
  · rw [mI_sI, if_neg (by simp), mI_sI, if_pos ⟨rfl, rfl⟩]; exact hn
  · exact a9.2.2.2.1.pre.keep (g 13 (by decide)) (g 14 (by decide))
  · exact fun q hq => a9.2.2.2.2 q (List.mem_append_left _ hq)
  · simp only [List.length_append, List.length_cons, List.length_nil] at a10; omega
theorem settle_rs {B : Nat → Nat} {L u p lv od least : Nat} {N : Mem} {C P Q : List (Nat × Nat)} (h : RS B L u N p lv od C (P ++ Q.reverse)) (hQ : ∀ q, q ∈ Q → least ≤ bindP q.1) (hP : P = [] ∨ bindP (P.getD (P.length - 1) (0, 0)).1 < least) (hle : least < 8) : So (FX12_settle u (Int32.ofNat least) N) (fun N' => PF u N N' ∧ RS B L u N' p lv od (flushP C Q) P ∧ (flushP C Q).length + P.length ≤ C.length + (P ++ Q.reverse).length) := by
  have hl := h.2.2.2.2.2.2.2.2.2
  have hs := tkS_le B h.2.1
  have hL := h.1.1
  have hf := (flushP_len Q C).2
  simp only [List.length_append, List.length_reverse] at hl
  refine (settle_so h.2.2.2.2.2.2.2.2.1 (by omega) hQ hP hle).mono (fun N' hN => ⟨PF_f hN.1 (by decide) (by decide), h.cp hN.1 (by decide) (by decide) hN.2 (by omega), by simp only [List.length_append, List.length_reverse]; omega⟩)
theorem push_rs {B : Nat → Nat} {L u p lv od op : Nat} {N : Mem} {C P : List (Nat × Nat)} (h : RS B L u N p lv od C P) (ho : 20 ≤ op ∧ op ≤ 32 ∧ op ≠ 29 ∧ op ≠ 30) (hl : C.length + P.length + 1 ≤ tkS B L p) : So (FX12_push u (Int32.ofNat op) 0 N) (fun N' => PF u N N' ∧ RS B L u N' p lv od C (P ++ [(op, 0)])) := by
  have hs := tkS_le B h.2.1
  have hL := h.1.1
  have c1 := h.2.2.2.2.2.2.2.2.1
  refine (pushR_so (op := op) (x := 0) c1 (by omega) ⟨ho.1, ho.2.1, by omega⟩).mono (fun N' hN => ?_)
  obtain ⟨e2, -, c2⟩ := hN
  have c2' := c2 C (by omega) (by rw [e2.2.1 23 (by decide)]; exact c1.1) (c1.2.1.keep (e2.1 _ (by omega) (by simp)).1 (e2.1 _ (by omega) (by simp)).1)
  exact ⟨PF_f e2 (by decide) (by decide), h.cp e2 (by decide) (by decide) c2' (by simp only [List.length_append, List.length_cons, List.length_nil]; omega)⟩
/-- settled, pushed and gone on -/
theorem spn {B : Nat → Nat} {L u p lv od least op : Nat} {N : Mem} {C P Q : List (Nat × Nat)} {τ : Type} {G : τ → Prop} {K : Mem → Option τ} (h : RS B L u N p lv od C (P ++ Q.reverse)) (hQ : ∀ q, q ∈ Q → least ≤ bindP q.1) (hP : P = [] ∨ bindP (P.getD (P.length - 1) (0, 0)).1 < least) (hle : least < 8) (ho : 20 ≤ op ∧ op ≤ 32 ∧ op ≠ 29 ∧ op ≠ 30) (hk : tkK B L p ≠ 0) (hK : ∀ N', PF u N N' → RS B L u N' (tkE B L p) lv od (flushP C Q) (P ++ [(op, 0)]) → So (K N') G) : So ((FX12_settle u (Int32.ofNat least) N).bind fun M35 => (FX12_push u (Int32.ofNat op) 0 M35).bind fun M36 => (FX12_next u M36).bind fun M37 => K M37) G := by
  have hl := h.2.2.2.2.2.2.2.2.2
  have hs := tkS_lt B hk
  have hL := h.1.1
  have hs2 := tkS_le B (tkE_le B h.2.1)
  refine So.bind (settle_rs h hQ hP hle) (fun N1 h1 => ?_)
  obtain ⟨p1, r1, l1⟩ := h1
  have c1 := r1.2.2.2.2.2.2.2.2.1
  refine So.bind (pushR_so (op := op) (x := 0) c1 (by omega) ⟨ho.1, ho.2.1, by omega⟩) (fun N2 h2 => ?_)
  obtain ⟨e2, -, c2⟩ := h2
  have c2' := c2 _ (Or.inr ⟨by omega, by omega, Nat.le_refl _⟩) (by rw [e2.2.1 23 (by decide)]; exact c1.1) (c1.2.1.keep (e2.1 _ (by omega) (by simp)).1 (e2.1 _ (by omega) (by simp)).1)
  have t9 : mI N2 (u + 9) = mI N1 (u + 9) := (e2.1 _ (by omega) (by simp)).1
  have T2 : TpR B L u N2 := ⟨hL, by rw [e2.2.1 13 (by decide)]; exact r1.1.2.1, fun k hk => by rw [t9]; exact r1.1.2.2 k hk⟩
  refine So.bind (next_so T2 (by rw [e2.2.1 15 (by decide)]; exact r1.2.2.1.2.1) (tkE_le B h.2.1)) (fun N3 h3 => ?_)
  obtain ⟨e3, t3⟩ := h3
  refine hK N3 ((p1.tr (PF_f e2 (by decide) (by decide))).tr (PF_n e3)) ⟨T2.keep e3, tkE_le B h.2.1, t3, ?_, ?_, r1.2.2.2.2.2.1, ?_, r1.2.2.2.2.2.2.2.1, CP_n c2' e3, ?_⟩
  · rw [e3.2.1 19 (by decide) (by decide) (by decide), e2.2.1 19 (by decide)]; exact r1.2.2.2.1
  · rw [e3.2.1 26 (by decide) (by decide) (by decide), e2.2.1 26 (by decide)]; exact r1.2.2.2.2.1
  · rw [e3.2.1 30 (by decide) (by decide) (by decide), e2.2.1 30 (by decide)]; exact r1.2.2.2.2.2.2.1
  · simp only [List.length_append, List.length_cons, List.length_nil] at l1 hl ⊢; omega
theorem behindSum_so {B : Nat → Nat} {L u p lv od : Nat} {tst : Int32} {N : Mem} {C P R : List (Nat × Nat)} (h : RS B L u N p lv od C (P ++ R.reverse)) (hR : ∀ q, q ∈ R → 20 ≤ q.1 ∧ q.1 ≤ 24) (hP : P = [] ∨ bindP (P.getD (P.length - 1) (0, 0)).1 < 5) (hin : innP P = 32 → 1 ≤ od ∧ ∃ P', P = P' ++ [(32, 0)]) : So (FX12_behindSum u tst N) (fun r => PF u N r.2 ∧ BSum B L u tst N p lv od C P R r) := by
  have hTp := h.1
  have hTk := h.2.2.1
  have hCP := h.2.2.2.2.2.2.2.2.1
  have hl := h.2.2.2.2.2.2.2.2.2
  have hsL := tkS_le B h.2.1
  have hL := h.1.1
  have hR5 : ∀ q, q ∈ R → 5 ≤ bindP q.1 := fun q hq => by
    have := hR q hq
    unfold bindP
    rw [if_neg (by omega), if_neg (by omega), if_neg (by omega), if_neg (by omega), if_neg (by omega)]
    split <;> omega
  unfold FX12_behindSum
  have sg : ∀ c, c < 256 → ∃ v : Int32, FX12_isSign u (Int32.ofNat c) N = some v ∧ (v = 1 ∧ isG B L p c ∨ v = 0 ∧ ¬ isG B L p c) := fun c hc => isSign_r hTp hTk hc
  obtain ⟨v43, e43, s43⟩ := sg 43 (by decide)
  obtain ⟨v45, e45, s45⟩ := sg 45 (by decide)
  obtain ⟨v42, e42, s42⟩ := sg 42 (by decide)
  obtain ⟨v47, e47, s47⟩ := sg 47 (by decide)
  obtain ⟨v37, e37, s37⟩ := sg 37 (by decide)
  obtain ⟨v60, e60, s60⟩ := sg 60 (by decide)
  obtain ⟨v62, e62, s62⟩ := sg 62 (by decide)
  obtain ⟨v61, e61, s61⟩ := sg 61 (by decide)
  obtain ⟨v93, e93, s93⟩ := sg 93 (by decide)
  rw [show (43 : Int32) = Int32.ofNat 43 from rfl, show (45 : Int32) = Int32.ofNat 45 from rfl, show (42 : Int32) = Int32.ofNat 42 from rfl, show (47 : Int32) = Int32.ofNat 47 from rfl, show (37 : Int32) = Int32.ofNat 37 from rfl, show (60 : Int32) = Int32.ofNat 60 from rfl, show (62 : Int32) = Int32.ofNat 62 from rfl, show (61 : Int32) = Int32.ofNat 61 from rfl, show (93 : Int32) = Int32.ofNat 93 from rfl, e43]
  refine So.bindE rfl (So_jn1R (fun v => (∃ op, v = Int32.ofNat op ∧ OpG B L p op) ∨ (v = -1 ∧ ∀ op, ¬ OpG B L p op)) (fun v2 hv2 => ?_) (fun j3 hj3 => ?_))
  · rcases hv2 with ⟨op, rfl, hop⟩ | ⟨rfl, hno⟩
    · have hopr : 20 ≤ op ∧ op ≤ 24 := by rcases hop with ⟨_, z⟩ | ⟨_, z⟩ | ⟨_, z⟩ | ⟨_, z⟩ | ⟨_, z⟩ <;> omega
      have hk : tkK B L p ≠ 0 := by rcases hop with ⟨z, _⟩ | ⟨z, _⟩ | ⟨z, _⟩ | ⟨z, _⟩ | ⟨z, _⟩ <;> exact RS.tkne z
      rw [if_neg (fun z => by
        have := congrArg Int32.toInt z
        rw [nn_int (by omega), show (-1 : Int32).toInt = -1 from rfl] at this; omega), binds_eq op (by omega)]
      refine So.bindE rfl ?_
      obtain ⟨R2, R1, hs1, hs2, hs3⟩ := bot_split (bindP op) R
      have hop5 : 5 ≤ bindP op := by
        unfold bindP
        rw [if_neg (by omega), if_neg (by omega), if_neg (by omega), if_neg (by omega), if_neg (by omega)]
        split <;> omega
      have h' : RS B L u N p lv od C ((P ++ R2.reverse) ++ R1.reverse) := by
        rw [List.append_assoc, ← List.reverse_append, ← hs1]; exact h
      refine spn (Q := R1) h' hs2 ?_ (by have := bindP_lt op; omega) ⟨by omega, by omega, by omega, by omega⟩ hk (fun N' pN rN => So.ok ⟨pN, Or.inl ⟨op, R1, R2, hop, hs1, hs2, hs3, rfl, rN⟩⟩)
      exact last_lt (hP.imp id (fun z => by omega)) hs3
    · rw [if_pos rfl, inner_eq hCP (by omega)]
      have hin2 : (P ++ R.reverse).foldl (fun a q => if q.1 < 31 then a else Int32.ofNat q.1) (-1) = innP P := innP_app P R.reverse (fun q hq => by have := hR q (List.mem_reverse.mp hq); omega)
      rw [hin2]
      refine So.bindE rfl ?_
      by_cases c32 : innP P = 32
      · rw [if_neg (fun z => z c32), e93]
        refine So.bindE rfl ?_
        obtain ⟨ho1, P', hP'⟩ := hin c32
        rcases s93 with ⟨rfl, g⟩ | ⟨rfl, g⟩
        · refine So.bind (must_yes h) (fun N1 h1 => So_jn1 ?_)
          obtain ⟨e1, r1⟩ := h1
          rw [r1.2.2.2.1, if_neg (by decide)]
          refine So.bind (settle_rs (least := 5) r1 hR5 hP (by decide)) (fun N2 h2 => So_nm (So_nm (So.ok ?_)))
          obtain ⟨p2, r2, l2⟩ := h2
          have ol := r2.2.2.2.2.2.2.2.1
          have e29 : mI N2 u 29 - 1 = Int32.ofNat P'.length := by
            rw [r2.2.2.2.2.2.2.2.2.1.2.2.1, hP', List.length_append]
            exact nn_sub (a := P'.length + 1) (b := 1) (by omega) (by rw [hP'] at l2 hl; simp only [List.length_append, List.length_cons, List.length_nil] at l2 hl; omega)
          have e30 : mI (sI N2 u 29 (mI N2 u 29 - 1)) u 30 - 1 = Int32.ofNat (od - 1) := by
            rw [mI_sI, if_neg (by simp), r2.2.2.2.2.2.2.1]
            exact nn_sub (b := 1) ho1 (by omega)
          rw [e30]
          have r3 := r2.od (P' := P') (od' := od - 1) ⟨_, hP'⟩ (by omega) _ e29
          have F3 : FrU u [29, 30] [] N2 (sI (sI N2 u 29 (mI N2 u 29 - 1)) u 30 (Int32.ofNat (od - 1))) := (FrU_f (by decide)).tr (FrU_f (by decide))
          exact ⟨((PF_n e1).tr p2).tr (PF_f F3 (by decide) (by decide)), Or.inr ⟨hno, Or.inl ⟨c32, Or.inl ⟨g, rfl, P', hP', r3⟩⟩⟩⟩
        · refine So.bind (must_no h) (fun N1 h1 => So_jn1 ?_)
          rw [h1.2.1, if_pos (by decide)]
          exact So.ok ⟨h1.1, Or.inr ⟨hno, Or.inl ⟨c32, Or.inr ⟨g, h1.2⟩⟩⟩⟩
      · rw [if_pos c32]
        refine So_jn0C (¬ (innP P = -1 ∧ tst = 0)) (fun hno2 => ?_) (fun j6 hj6 => ?_)
        · rw [isCompared_eq hCP (by omega)]
          have hcm : cmpR (P ++ R.reverse).reverse = cmpR P.reverse := by
            rw [List.reverse_append, List.reverse_reverse, cmpR_app R _ hR]
          rw [hcm]
          refine So.bindE rfl ?_
          cases hcp : cmpR P.reverse with
          | true =>
            rw [if_pos rfl, if_neg (by decide)]
            exact So.ok ⟨PF.rf, Or.inr ⟨hno, Or.inr (Or.inr ⟨c32, hno2, Or.inl ⟨hcp, rfl⟩⟩)⟩⟩
          | false =>
            rw [show (if false = true then (1 : Int32) else 0) = 0 from rfl, if_pos rfl, e60]
            refine So.bindE rfl (So_jn1R (fun v => ∃ op, v = Int32.ofNat op ∧ 25 ≤ op ∧ op ≤ 27 ∧ (op ≠ 27 → CmG B L p op) ∧ (op = 27 → ¬ isG B L p 60 ∧ ¬ isG B L p 62)) (fun v10 hv10 => ?_) (fun j11 hj11 => ?_))
            · obtain ⟨op, rfl, o1, o2, o3, o4⟩ := hv10
              refine So_jn1R (fun v => (v = 1 ∧ CmG B L p op) ∨ (v = 0 ∧ ∀ op, ¬ CmG B L p op)) (fun v13 hv13 => ?_) (fun j14 hj14 => So_jn0 ?_)
              · rcases hv13 with ⟨rfl, hc⟩ | ⟨rfl, hc⟩
                · have hk : tkK B L p ≠ 0 := by rcases hc with ⟨z, _⟩ | ⟨z, _⟩ | ⟨z, _⟩ <;> exact RS.tkne z
                  have hs1 := tkS_lt B hk
                  refine So.bind (must_yes h) (fun N1 h1 => So_jn1 ?_)
                  obtain ⟨e1, r1⟩ := h1
                  rw [r1.2.2.2.1, if_neg (by decide)]
                  refine So.bind (settle_rs (least := 5) r1 hR5 hP (by decide)) (fun N2 h2 => ?_)
                  obtain ⟨p2, r2, l2⟩ := h2
                  refine So.bind (push_rs (op := op) r2 ⟨by omega, by omega, by omega, by omega⟩ (by omega)) (fun N3 h3 => So.ok ?_)
                  exact ⟨((PF_n e1).tr p2).tr h3.1, Or.inr ⟨hno, Or.inr (Or.inr ⟨c32, hno2, Or.inr ⟨hcp, Or.inl ⟨op, hc, rfl, h3.2⟩⟩⟩)⟩⟩
                · refine So.bind (must_no h) (fun N1 h1 => So_jn1 ?_)
                  rw [h1.2.1, if_pos (by decide)]
                  exact So.ok ⟨h1.1, Or.inr ⟨hno, Or.inr (Or.inr ⟨c32, hno2, Or.inr ⟨hcp, Or.inr ⟨hc, h1.2⟩⟩⟩)⟩⟩
              · by_cases c27 : op = 27
                · subst c27
                  rw [if_neg (by decide), e61]
                  refine So.bindE rfl ?_
                  rcases s61 with ⟨rfl, g⟩ | ⟨rfl, g⟩
                  · rw [if_neg (by decide)]
                    exact hj14 _ (Or.inl ⟨rfl, Or.inr (Or.inr ⟨g, rfl⟩)⟩)
                  · rw [if_pos rfl]
                    refine hj14 _ (Or.inr ⟨rfl, fun op z => ?_⟩)
                    obtain ⟨n1, n2⟩ := o4 rfl
                    rcases z with ⟨z, _⟩ | ⟨z, _⟩ | ⟨z, _⟩
                    · exact n1 z
                    · exact n2 z
                    · exact g z
                · rw [if_pos (show ¬ Int32.ofNat op = 27 from fun z => c27 ((nn_eq (b := 27) (by omega) (by omega)).mp z))]
                  exact hj14 _ (Or.inl ⟨rfl, o3 c27⟩)
            · rcases s60 with ⟨rfl, g⟩ | ⟨rfl, g⟩
              · rw [if_neg (by decide)]
                exact hj11 _ ⟨25, rfl, by omega, by omega, fun _ => Or.inl ⟨g, rfl⟩, fun z => by omega⟩
              · rw [if_pos rfl, e62]
                refine So.bindE rfl ?_
                rcases s62 with ⟨rfl, g2⟩ | ⟨rfl, g2⟩
                · rw [if_neg (by decide)]
                  exact hj11 _ ⟨26, rfl, by omega, by omega, fun _ => Or.inr (Or.inl ⟨g2, rfl⟩), fun z => by omega⟩
                · rw [if_pos rfl]
                  exact hj11 _ ⟨27, rfl, by omega, by omega, fun z => absurd rfl z, fun _ => ⟨g, g2⟩⟩
        · by_cases c1 : innP P = -1
          · rw [if_neg (fun z => z c1)]
            by_cases ct : tst = 0
            · rw [if_neg (fun z => z ct)]
              exact So.ok ⟨PF.rf, Or.inr ⟨hno, Or.inr (Or.inl ⟨c1, ct, rfl⟩)⟩⟩
            · rw [if_pos ct]; exact hj6 (fun z => ct z.2)
          · rw [if_pos c1]; exact hj6 (fun z => c1 z.1)
  · rcases s43 with ⟨rfl, g⟩ | ⟨rfl, g⟩
    · rw [if_neg (by decide)]; exact hj3 _ (Or.inl ⟨20, rfl, Or.inl ⟨g, rfl⟩⟩)
    rw [if_pos rfl, e45]
    refine So.bindE rfl ?_
    rcases s45 with ⟨rfl, g2⟩ | ⟨rfl, g2⟩
    · rw [if_neg (by decide)]; exact hj3 _ (Or.inl ⟨21, rfl, Or.inr (Or.inl ⟨g2, rfl⟩)⟩)
    rw [if_pos rfl, e42]
    refine So.bindE rfl ?_
    rcases s42 with ⟨rfl, g3⟩ | ⟨rfl, g3⟩
    · rw [if_neg (by decide)]; exact hj3 _ (Or.inl ⟨22, rfl, Or.inr (Or.inr (Or.inl ⟨g3, rfl⟩))⟩)
    rw [if_pos rfl, e47]
    refine So.bindE rfl ?_
    rcases s47 with ⟨rfl, g4⟩ | ⟨rfl, g4⟩
    · rw [if_neg (by decide)]; exact hj3 _ (Or.inl ⟨23, rfl, Or.inr (Or.inr (Or.inr (Or.inl ⟨g4, rfl⟩)))⟩)
    rw [if_pos rfl, e37]
    refine So.bindE rfl ?_
    rcases s37 with ⟨rfl, g5⟩ | ⟨rfl, g5⟩
    · rw [if_neg (by decide)]; exact hj3 _ (Or.inl ⟨24, rfl, Or.inr (Or.inr (Or.inr (Or.inr ⟨g5, rfl⟩)))⟩)
    rw [if_pos rfl]
    refine hj3 _ (Or.inr ⟨rfl, fun op z => ?_⟩)
    rcases z with ⟨z, _⟩ | ⟨z, _⟩ | ⟨z, _⟩ | ⟨z, _⟩ | ⟨z, _⟩
    · exact g z
    · exact g2 z
    · exact g3 z
    · exact g4 z
    · exact g5 z
