/-! ===== the reference behind a test and ahead of one ===== -/
theorem tkW_len (B : Nat → Nat) (L p : Nat) : (tkW B L p).length = tkE B L p - tkS B L p := by unfold tkW; simp
theorem isW_len {B : Nat → Nat} {L p j : Nat} (h : isW B L p j) : (WL.getD j []).length = tkE B L p - tkS B L p := by
  rw [← tkW_len, List.getD_eq_getElem?_getD, h.2]; rfl
theorem tkS_pl (B : Nat → Nat) {L p n : Nat} (h : tkE B L p - tkS B L p = n) (hn : 0 < n) : tkS B L p + n ≤ tkS B L (tkE B L p) := by
  have := tkS_ge B L (tkE B L p); omega
def BTst (B : Nat → Nat) (L u : Nat) (N : Mem) (p lv od : Nat) (C P R : List (Nat × Nat)) (r : Int32 × Mem) : Prop :=
  (isW B L p 27 ∧ ∃ R1 R2, R = R1 ++ R2 ∧ (∀ q, q ∈ R1 → 2 ≤ bindP q.1) ∧ (R2 = [] ∨ ∃ a R', R2 = a :: R' ∧ bindP a.1 < 2) ∧ r.1 = 0 ∧ RS B L u r.2 (tkE B L p) lv od (flushP C R1 ++ [(29, 0)]) ((P ++ R2.reverse) ++ [(29, (flushP C R1).length)])) ∨
  (isW B L p 26 ∧ r.1 = 0 ∧ RS B L u r.2 (tkE B L p) lv od (flushP C R ++ [(30, 0)]) (P ++ [(30, (flushP C R).length)])) ∨
  (¬ isW B L p 27 ∧ ¬ isW B L p 26 ∧ ((innP P = -1 ∧ r = (4, N)) ∨ (innP P ≠ -1 ∧ ((isG B L p 41 ∧ r.1 = 2 ∧ ∃ P' a, P = P' ++ [a] ∧ RS B L u r.2 (tkE B L p) lv (od - 1) (flushP C R) P') ∨ (¬ isG B L p 41 ∧ RB u r.2 (tkS B L p))))))
theorem sjump {B : Nat → Nat} {L u p lv od least op j : Nat} {N : Mem} {C P Q : List (Nat × Nat)} {τ : Type} {G : τ → Prop} {K : Mem → Option τ} (h : RS B L u N p lv od C (P ++ Q.reverse)) (hQ : ∀ q, q ∈ Q → least ≤ bindP q.1) (hP : P = [] ∨ bindP (P.getD (P.length - 1) (0, 0)).1 < least) (hle : least < 8) (ho : op = 29 ∨ op = 30) (hj : isW B L p j) (hj2 : 2 ≤ (WL.getD j []).length) (hK : ∀ N', PF u N N' → RS B L u N' (tkE B L p) lv od (flushP C Q ++ [(op, 0)]) (P ++ [(op, (flushP C Q).length)]) → So (K N') G) : So ((FX12_settle u (Int32.ofNat least) N).bind fun M7 => (FX12_push u (Int32.ofNat op) (mI M7 u 23) M7).bind fun M11 => (FX12_emit u (Int32.ofNat op) 0 M11).bind fun M15 => (FX12_next u M15).bind fun M16 => K M16) G := by
  have hl := h.2.2.2.2.2.2.2.2.2
  have hwl := isW_len hj
  have hs := tkS_pl B hwl.symm (by omega)
  have hL := h.1.1
  have hs2 := tkS_le B (tkE_le B h.2.1)
  refine So.bind (settle_rs h hQ hP hle) (fun N1 h1 => ?_)
  obtain ⟨p1, r1, l1⟩ := h1
  have c1 := r1.2.2.2.2.2.2.2.2.1
  rw [c1.1]
  refine So.bind (pushR_so (op := op) (x := (flushP C Q).length) c1 (by omega) ⟨by omega, by omega, by omega⟩) (fun N2 h2 => ?_)
  obtain ⟨e2, ⟨g1, g2⟩, -⟩ := h2
  have m23 : mI N2 u 23 = Int32.ofNat (flushP C Q).length := by rw [e2.2.1 23 (by decide)]; exact c1.1
  have ls2 : lsP N2 (u + 11) (u + 12) (flushP C Q) := c1.2.1.keep (e2.1 _ (by omega) (by simp)).1 (e2.1 _ (by omega) (by simp)).1
  unfold FX12_emit
  rw [m23, nn_ix (by omega)]
  refine So.bind (R := fun N3 => FrU u [23] [11, 12] N2 N3 ∧ mI N3 u 23 = Int32.ofNat (flushP C Q ++ [(op, 0)]).length ∧ lsP N3 (u + 11) (u + 12) (flushP C Q ++ [(op, 0)])) ?_ (fun N3 h3 => ?_)
  · refine So_gd (inb_nn (by omega) (by decide)) (So_nm ?_)
    have e3 : mI (sI N2 (u + 11) (flushP C Q).length (Int32.ofNat op)) u 23 = Int32.ofNat (flushP C Q).length := by rw [mI_sI, if_neg (by omega), m23]
    rw [e3, nn_ix (by omega)]
    refine So_gd (inb_nn (by omega) (by decide)) (So_nm (So_nm (So.ok ?_)))
    have e4 : mI (sI (sI N2 (u + 11) (flushP C Q).length (Int32.ofNat op)) (u + 12) (flushP C Q).length 0) u 23 = Int32.ofNat (flushP C Q).length := by rw [mI_sI, if_neg (by omega), e3]
    rw [e4, s1]
    refine ⟨((FrU_a (by decide) (by decide)).tr (FrU_a (by decide) (by decide))).tr (FrU_f (by decide)), ?_, ?_⟩
    · rw [mI_sI, if_pos ⟨rfl, rfl⟩]; simp
    · refine (ls2.app (op := op) (x := 0) (by omega)).keep (funext fun k => ?_) (funext fun k => ?_)
      · rw [mI_sI, if_neg (by omega)]; rfl
      · rw [mI_sI, if_neg (by omega)]; rfl
  · obtain ⟨e3, m3, ls3⟩ := h3
    -- the pile
    have ho13 : mI N3 (u + 13) = mI N2 (u + 13) := (e3.1 _ (by omega) (by simp)).1
    have ho14 : mI N3 (u + 14) = mI N2 (u + 14) := (e3.1 _ (by omega) (by simp)).1
    have c3 : CP u N3 (flushP C Q ++ [(op, 0)]) (P ++ [(op, (flushP C Q).length)]) := by
      refine ⟨m3, ls3, ?_, ?_, ?_⟩
      · rw [e3.2.1 29 (by decide)]; exact g1
      · exact g2.keep ho13 ho14
      · intro x hx
        rcases List.mem_append.mp hx with hx | hx
        · obtain ⟨a, b, c⟩ := c1.2.2.2.2 x hx
          exact ⟨a, b, fun z => by have := c z; simp; omega⟩
        · obtain rfl := List.mem_singleton.mp hx
          exact ⟨by simp only []; omega, by simp only []; omega, fun _ => by simp⟩
    have t9 : mI N3 (u + 9) = mI N1 (u + 9) := (e3.1 _ (by omega) (by simp)).1.trans (e2.1 _ (by omega) (by simp)).1
    have fk : ∀ k, k ≠ 23 → k ≠ 29 → mI N3 u k = mI N1 u k := fun k h1 h2 => (e3.2.1 k (by simpa using h1)).trans (e2.2.1 k (by simpa using h2))
    have T3 : TpR B L u N3 := ⟨hL, by rw [fk 13 (by decide) (by decide)]; exact r1.1.2.1, fun k hk => by rw [t9]; exact r1.1.2.2 k hk⟩
    refine So.bind (next_so T3 (by rw [fk 15 (by decide) (by decide)]; exact r1.2.2.1.2.1) (tkE_le B h.2.1)) (fun N4 h4 => ?_)
    obtain ⟨e4, t4⟩ := h4
    refine hK N4 (((p1.tr (PF_f e2 (by decide) (by decide))).tr (PF_f e3 (by decide) (by decide))).tr (PF_n e4)) ⟨T3.keep e4, tkE_le B h.2.1, t4, ?_, ?_, r1.2.2.2.2.2.1, ?_, r1.2.2.2.2.2.2.2.1, CP_n c3 e4, ?_⟩
    · rw [e4.2.1 19 (by decide) (by decide) (by decide), fk 19 (by decide) (by decide)]; exact r1.2.2.2.1
    · rw [e4.2.1 26 (by decide) (by decide) (by decide), fk 26 (by decide) (by decide)]; exact r1.2.2.2.2.1
    · rw [e4.2.1 30 (by decide) (by decide) (by decide), fk 30 (by decide) (by decide)]; exact r1.2.2.2.2.2.2.1
    · simp only [List.length_append, List.length_cons, List.length_nil] at l1 hl ⊢; omega
theorem behindTest_so {B : Nat → Nat} {L u p lv od : Nat} {N : Mem} {C P R : List (Nat × Nat)} (h : RS B L u N p lv od C (P ++ R.reverse)) (hR : ∀ q, q ∈ R → 1 ≤ bindP q.1) (hP : P = [] ∨ bindP (P.getD (P.length - 1) (0, 0)).1 < 1) (hin : innP P ≠ -1 → 1 ≤ od ∧ ∃ P' a, P = P' ++ [a]) : So (FX12_behindTest u N) (fun r => PF u N r.2 ∧ BTst B L u N p lv od C P R r) := by
  have hTp := h.1
  have hTk := h.2.2.1
  have hCP := h.2.2.2.2.2.2.2.2.1
  have hl := h.2.2.2.2.2.2.2.2.2
  have hsL := tkS_le B h.2.1
  have hL := h.1.1
  unfold FX12_behindTest
  obtain ⟨v27, e27, s27⟩ := isWord_r (j := 27) (c := 1476) hTk (by decide) (by decide +kernel)
  obtain ⟨v26, e26, s26⟩ := isWord_r (j := 26) (c := 498) hTk (by decide) (by decide +kernel)
  rw [e27]
  refine So.bindE rfl (So_jn0C (isW B L p 27 ∨ isW B L p 26) (fun hC => So_jn1 ?_) (fun j2 hj2 => ?_))
  · rcases s27 with ⟨rfl, g⟩ | ⟨rfl, g⟩
    · rw [if_neg (by decide)]
      simp only [jn1, if_neg (show ¬ (1 : Int32) = 0 by decide)]
      obtain ⟨R2, R1, hs1, hs2, hs3⟩ := bot_split 2 R
      have h' : RS B L u N p lv od C ((P ++ R2.reverse) ++ R1.reverse) := by
        rw [List.append_assoc, ← List.reverse_append, ← hs1]; exact h
      refine sjump (least := 2) (op := 29) (j := 27) (Q := R1) h' hs2 (last_lt (hP.imp id (fun z => by omega)) hs3) (by decide) (Or.inl rfl) g (by decide) (fun N' pN rN => So.ok ⟨pN, Or.inl ⟨g, R1, R2, hs1, hs2, hs3, rfl, rN⟩⟩)
    · have g26 := hC.resolve_left g
      rw [if_pos rfl]
      simp only [jn1, if_pos (show (0 : Int32) = 0 from rfl)]
      refine sjump (least := 1) (op := 30) (j := 26) (Q := R) h hR hP (by decide) (Or.inr rfl) g26 (by decide) (fun N' pN rN => So.ok ⟨pN, Or.inr (Or.inl ⟨g26, rfl, rN⟩)⟩)
  · rcases s27 with ⟨rfl, g⟩ | ⟨rfl, g⟩
    · rw [if_pos (by decide)]; exact hj2 (Or.inl g)
    rw [if_neg (by decide), e26]
    refine So.bindE rfl ?_
    rcases s26 with ⟨rfl, g2⟩ | ⟨rfl, g2⟩
    · rw [if_neg (by decide)]; exact hj2 (Or.inr g2)
    rw [if_pos rfl, inner_eq hCP (by omega)]
    have hin2 : (P ++ R.reverse).foldl (fun a q => if q.1 < 31 then a else Int32.ofNat q.1) (-1) = innP P := innP_app P R.reverse (fun q hq => by
      have h1 := hR q (List.mem_reverse.mp hq)
      unfold bindP at h1
      apply Classical.byContradiction
      intro z
      rw [if_pos (by omega)] at h1
      omega)
    rw [hin2]
    refine So.bindE rfl ?_
    by_cases c1 : innP P = -1
    · rw [if_neg (fun z => z c1)]
      exact So.ok ⟨PF.rf, Or.inr (Or.inr ⟨g, g2, Or.inl ⟨c1, rfl⟩⟩)⟩
    · rw [if_pos c1]
      obtain ⟨v41, e41, s41⟩ := isSign_r (c := 41) hTp hTk (by decide)
      rw [show (41 : Int32) = Int32.ofNat 41 from rfl, e41]
      refine So.bindE rfl ?_
      obtain ⟨ho1, P', a, hP'⟩ := hin c1
      rcases s41 with ⟨rfl, g3⟩ | ⟨rfl, g3⟩
      · refine So.bind (must_yes h) (fun N1 h1 => So_jn1 ?_)
        obtain ⟨e1, r1⟩ := h1
        rw [r1.2.2.2.1, if_neg (by decide)]
        refine So.bind (settle_rs (least := 1) r1 hR hP (by decide)) (fun N2 h2 => So_nm (So_nm (So.ok ?_)))
        obtain ⟨p2, r2, l2⟩ := h2
        have ol := r2.2.2.2.2.2.2.2.1
        have e29 : mI N2 u 29 - 1 = Int32.ofNat P'.length := by
          rw [r2.2.2.2.2.2.2.2.2.1.2.2.1, hP', List.length_append]
          exact nn_sub (a := P'.length + 1) (b := 1) (by omega) (by rw [hP'] at l2 hl; simp only [List.length_append, List.length_cons, List.length_nil] at l2 hl; omega)
        have e30 : mI (sI N2 u 29 (mI N2 u 29 - 1)) u 30 - 1 = Int32.ofNat (od - 1) := by
          rw [mI_sI, if_neg (by simp), r2.2.2.2.2.2.2.1]
          exact nn_sub (b := 1) ho1 (by omega)
        rw [e30]
        have r3 := r2.od (P' := P') (od' := od - 1) ⟨_, hP'⟩ (by omega) _ e29
        have F3 : FrU u [29, 30] [] N2 (sI (sI N2 u 29 (mI N2 u 29 - 1)) u 30 (Int32.ofNat (od - 1))) := (FrU_f (by decide)).tr (FrU_f (by decide))
        exact ⟨((PF_n e1).tr p2).tr (PF_f F3 (by decide) (by decide)), Or.inr (Or.inr ⟨g, g2, Or.inr ⟨c1, Or.inl ⟨g3, rfl, P', a, hP', r3⟩⟩⟩)⟩
      · refine So.bind (must_no h) (fun N1 h1 => So_jn1 ?_)
        rw [h1.2.1, if_pos (by decide)]
        exact So.ok ⟨h1.1, Or.inr (Or.inr ⟨g, g2, Or.inr ⟨c1, Or.inr ⟨g3, h1.2⟩⟩⟩)⟩
/-- ahead of a test: not, a bracket, or a part -/
theorem readPlain_so {B : Nat → Nat} {L u p lv od : Nat} {N : Mem} {C P : List (Nat × Nat)} {G : Int32 × Mem → Prop} (h : RS B L u N p lv od C P) (h1 : isW B L p 28 → ∀ N', PF u N N' → RS B L u N' (tkE B L p) lv od C (P ++ [(28, 0)]) → G (0, N')) (h2 : isG B L p 40 → ∀ N', PF u N N' → ((od < 8 ∧ RS B L u N' (tkE B L p) lv (od + 1) C (P ++ [(31, 0)])) ∨ (od = 8 ∧ RB u N' (tkS B L p))) → G (0, N')) (h3 : ¬ isW B L p 28 → ¬ isG B L p 40 → So (FX12_readPart u N) G) : So (FX12_readPlain u N) G := by
  have hTp := h.1
  have hTk := h.2.2.1
  have hl := h.2.2.2.2.2.2.2.2.2
  have hL := h.1.1
  have hs2 := tkS_le B (tkE_le B h.2.1)
  unfold FX12_readPlain
  obtain ⟨v28, e28, s28⟩ := isWord_r (j := 28) (c := 14836) hTk (by decide) (by decide +kernel)
  rw [e28]
  refine So.bindE rfl ?_
  rcases s28 with ⟨rfl, g⟩ | ⟨rfl, g⟩
  · rw [if_neg (by decide)]
    have hk : tkK B L p ≠ 0 := by rw [g.1]; decide
    have hs := tkS_lt B hk
    have c1 := h.2.2.2.2.2.2.2.2.1
    refine So.bind (pushR_so (op := 28) (x := 0) c1 (by omega) ⟨by omega, by omega, by omega⟩) (fun N2 h2 => ?_)
    obtain ⟨e2, -, c2⟩ := h2
    have c2' := c2 C (by omega) (by rw [e2.2.1 23 (by decide)]; exact c1.1) (c1.2.1.keep (e2.1 _ (by omega) (by simp)).1 (e2.1 _ (by omega) (by simp)).1)
    have t9 : mI N2 (u + 9) = mI N (u + 9) := (e2.1 _ (by omega) (by simp)).1
    have T2 : TpR B L u N2 := ⟨hL, by rw [e2.2.1 13 (by decide)]; exact hTp.2.1, fun k hk => by rw [t9]; exact hTp.2.2 k hk⟩
    refine So.bind (next_so T2 (by rw [e2.2.1 15 (by decide)]; exact hTk.2.1) (tkE_le B h.2.1)) (fun N3 h3 => So.ok (h1 g N3 ((PF_f e2 (by decide) (by decide)).tr (PF_n h3.1)) ?_))
    obtain ⟨e3, t3⟩ := h3
    refine ⟨T2.keep e3, tkE_le B h.2.1, t3, ?_, ?_, h.2.2.2.2.2.1, ?_, h.2.2.2.2.2.2.2.1, CP_n c2' e3, ?_⟩
    · rw [e3.2.1 19 (by decide) (by decide) (by decide), e2.2.1 19 (by decide)]; exact h.2.2.2.1
    · rw [e3.2.1 26 (by decide) (by decide) (by decide), e2.2.1 26 (by decide)]; exact h.2.2.2.2.1
    · rw [e3.2.1 30 (by decide) (by decide) (by decide), e2.2.1 30 (by decide)]; exact h.2.2.2.2.2.2.1
    · simp only [List.length_append, List.length_cons, List.length_nil]; omega
  · rw [if_pos rfl]
    obtain ⟨v40, e40, s40⟩ := isSign_r (c := 40) hTp hTk (by decide)
    rw [show (40 : Int32) = Int32.ofNat 40 from rfl, e40]
    refine So.bindE rfl ?_
    rcases s40 with ⟨rfl, g2⟩ | ⟨rfl, g2⟩
    · rw [if_neg (by decide)]
      exact So.bind (open_so (op := 31) h (Or.inl rfl) (RS.tkne g2)) (fun N1 h4 => So.ok (h2 g2 N1 h4.1 h4.2))
    · rw [if_pos rfl]
      exact So_bdM (h3 g g2) (fun r M hr => So.ok hr)
