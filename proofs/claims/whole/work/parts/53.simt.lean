/-! ===== how the reference goes over tests ===== -/
def IR (P : List (Nat × Nat)) : Prop := innP P = -1 ∨ innP P = 31
theorem IR.in32 {od : Nat} {P : List (Nat × Nat)} (h : IR P) : In32 od P := fun z => by
  rcases h with h | h <;> rw [h] at z <;> exact absurd z (by decide)
theorem IR.app {P : List (Nat × Nat)} {op x : Nat} (h : IR P) (ho : op < 31) : IR (P ++ [(op, x)]) := by
  unfold IR
  rw [innP_app P [(op, x)] (fun q hq => by have := List.mem_singleton.mp hq; subst this; exact ho)]; exact h
theorem Low.up {n m : Nat} {P : List (Nat × Nat)} (h : Low n P) (hn : n ≤ m) : Low m P := h.imp id (fun z => by omega)
def TIn (od : Nat) (P : List (Nat × Nat)) : Prop := innP P ≠ -1 → 1 ≤ od ∧ ∃ P' a, P = P' ++ [a]
def BBase (od : Nat) (P : List (Nat × Nat)) : Prop := ∃ P0 R0, P = P0 ++ R0.reverse ∧ Low 1 P0 ∧ IR P0 ∧ TIn od P0 ∧ (R0 = [] ∨ ∃ k, R0 = [(30, k)])
def SPlain (B : Nat → Nat) (L u o : Nat) (p lv od p' lv' d : Nat) (f : Den) : Prop := ∀ N C P Q, Ctx B L u o N p lv od C P → Low 4 P → IR P → (∀ N' Y R Y', PF u N N' → Ctx B L u o N' p' lv' od (C ++ Y) (P ++ R.reverse) → (∀ q, q ∈ R → 3 ≤ bindP q.1) → Wait C Y R Y' → DR o Y' C.length d f → Rn B L u 1 2 N' p' Q) → Rn B L u 1 0 N p Q
def FPlain (B : Nat → Nat) (L u o : Nat) (p lv od pf : Nat) : Prop := ∀ N C P Q, Ctx B L u o N p lv od C P → Low 4 P → IR P → QB u N pf Q → Rn B L u 1 0 N p Q
def SBoth (B : Nat → Nat) (L u o : Nat) (p lv od p' lv' d : Nat) (f : Den) : Prop := ∀ N C P Q, Ctx B L u o N p lv od C P → BBase od P → (∀ N' Y R Y', PF u N N' → Ctx B L u o N' p' lv' od (C ++ Y) (P ++ R.reverse) → (∀ q, q ∈ R → 2 ≤ bindP q.1) → Wait C Y R Y' → DR o Y' C.length d f → Rn B L u 1 2 N' p' Q) → Rn B L u 1 0 N p Q
def FBoth (B : Nat → Nat) (L u o : Nat) (p lv od pf : Nat) : Prop := ∀ N C P Q, Ctx B L u o N p lv od C P → BBase od P → QB u N pf Q → Rn B L u 1 0 N p Q
def STest (B : Nat → Nat) (L u o : Nat) (p lv od p' lv' d : Nat) (f : Den) : Prop := ∀ N C P Q, Ctx B L u o N p lv od C P → Low 1 P → IR P → TIn od P → (∀ N' Y R Y', PF u N N' → Ctx B L u o N' p' lv' od (C ++ Y) (P ++ R.reverse) → (∀ q, q ∈ R → 1 ≤ bindP q.1) → Wait C Y R Y' → DR o Y' C.length d f → Rn B L u 1 2 N' p' Q) → Rn B L u 1 0 N p Q
def FTest (B : Nat → Nat) (L u o : Nat) (p lv od pf : Nat) : Prop := ∀ N C P Q, Ctx B L u o N p lv od C P → Low 1 P → IR P → TIn od P → QB u N pf Q → Rn B L u 1 0 N p Q
theorem readPlain_eq {B : Nat → Nat} {L u p lv od : Nat} {N : Mem} {C P : List (Nat × Nat)} (h : RS B L u N p lv od C P) (h1 : ¬ isW B L p 28) (h2 : ¬ isG B L p 40) : FX12_readPlain u N = FX12_readPart u N := by
  obtain ⟨v28, e28, s28⟩ := isWord_r (j := 28) (c := 14836) h.2.2.1 (by decide) (by decide +kernel)
  obtain ⟨v40, e40, s40⟩ := isSign_r (c := 40) h.1 h.2.2.1 (by decide)
  rcases s28 with ⟨_, z⟩ | ⟨rfl, _⟩
  · exact absurd z h1
  rcases s40 with ⟨_, z⟩ | ⟨rfl, _⟩
  · exact absurd z h2
  unfold FX12_readPlain
  rw [e28, show (40 : Int32) = Int32.ofNat 40 from rfl, e40]
  show bdM (FX12_readPart u N) (fun r M => some (r, M)) = _
  unfold bdM
  cases FX12_readPart u N <;> rfl
theorem rn01 {B : Nat → Nat} {L u p : Nat} {tst : Int32} {N : Mem} {Q : Mem → Prop} (h : Rn B L u tst 1 N p Q) (he : FX12_readPlain u N = FX12_readPart u N) : Rn B L u tst 0 N p Q := by
  intro n hn
  have := h n hn
  cases n with
  | zero => omega
  | succ n =>
    have e : stepE u tst (Int32.ofNat 0) N (wl2 (stepE u tst) n) = stepE u tst (Int32.ofNat 1) N (wl2 (stepE u tst) n) := by
      unfold stepE jn0 jn2
      simp only []
      by_cases c : ¬ mI N u 19 = 0
      · rw [if_pos c, if_pos c]
      · rw [if_neg c, if_neg c, if_neg (by decide), if_neg (by decide), if_neg (by decide), if_pos (by decide), if_neg (by decide), he]
    show So (stepE u tst (Int32.ofNat 0) N (wl2 (stepE u tst) n)) Q
    rw [e]; exact this
theorem CmG_k {B : Nat → Nat} {L p a : Nat} (h : CmG B L p a) : tkK B L p ≠ 0 ∧ 25 ≤ a ∧ a ≤ 27 := by
  rcases h with ⟨z, e⟩ | ⟨z, e⟩ | ⟨z, e⟩ <;> exact ⟨RS.tkne z, by omega, by omega⟩
theorem CmG_inj {B : Nat → Nat} {L p a b : Nat} (h : CmG B L p a) (h2 : CmG B L p b) : a = b := by
  rcases h with ⟨h, e⟩ | ⟨h, e⟩ | ⟨h, e⟩ <;> rcases h2 with ⟨h2, e2⟩ | ⟨h2, e2⟩ | ⟨h2, e2⟩ <;> first | (rw [e, e2]; done) | (exact absurd (isG_inj h h2) (by decide))
theorem cmp_low {P : List (Nat × Nat)} (h : Low 4 P) : cmpR P.reverse = false := by
  rcases List.eq_nil_or_concat P with rfl | ⟨P', a, hP⟩
  · rfl
  · rw [List.concat_eq_append] at hP
    subst hP
    rcases h with h | h
    · simp at h
    · have := gD_app_r (X := P') (Y := [a]) (i := 0)
      simp only [List.length_append, List.length_cons, List.length_nil, Nat.add_zero] at this h
      rw [show P'.length + (0 + 1) - 1 = P'.length by omega, this] at h
      have h : bindP a.1 < 4 := h
      rw [List.reverse_append]
      show cmpR (a :: P'.reverse) = false
      rw [cmpR_cons]
      unfold bindP at h
      by_cases z : 28 ≤ a.1
      · rw [if_neg (by omega)]; simp; omega
      · exfalso
        rw [if_neg (by omega), if_neg (by omega), if_neg (by omega), if_neg (by omega)] at h
        split at h
        · omega
        · split at h <;> omega
/-- a comparison's first sum is read; what comes behind it -/
theorem plain_mid {B : Nat → Nat} {L u o p lv od p1 lv1 d : Nat} {f : Den} (h28 : ¬ isW B L p 28) (h40 : ¬ isG B L p 40) (h : SSum B L u o 1 p lv od p1 lv1 d f) (hno : ∀ op, ¬ OpG B L p1 op) : ∀ N C P Q, Ctx B L u o N p lv od C P → Low 4 P → IR P → (∀ op, CmG B L p1 op → ∀ N' Y', PF u N N' → Ctx B L u o N' (tkE B L p1) lv1 od (C ++ Y') (P ++ [(op, 0)]) → DR o Y' C.length d f → Rn B L u 1 1 N' (tkE B L p1) Q) → ((∀ op, ¬ CmG B L p1 op) → QB u N (tkS B L p1) Q) → Rn B L u 1 0 N p Q := by
  intro N C P Q hc hl hi hk hb
  refine rn01 (h N C P Q hc (hl.up (by decide)) hi.in32 (fun N' Y R Y' pf c hR hw hD => ?_)) (readPlain_eq hc.1 h28 h40)
  refine rn_sum c.1.2.2.2.1 ((behindSum_so (tst := 1) c.1 hR (hl.up (by decide)) hi.in32).mono (fun r hr => ?_))
  obtain ⟨pr, hr⟩ := hr
  rcases hr with ⟨op', R1, R2, o1, _⟩ | ⟨_, hr⟩
  · exact absurd o1 (hno op')
  · rcases hr with ⟨z, _⟩ | ⟨_, z, _⟩ | ⟨_, _, hr⟩
    · rcases hi with hi | hi <;> rw [hi] at z <;> exact absurd z (by decide)
    · exact absurd z (by decide)
    · rcases hr with ⟨z, _⟩ | ⟨_, ⟨op, hg, e1, r1⟩ | ⟨hg, b⟩⟩
      · rw [cmp_low hl] at z; cases z
      · have hw : flushP (C ++ Y) R = C ++ Y' := hw
        rw [hw] at r1
        exact Or.inr ⟨1, tkE B L p1, e1, bud 3 1 (CmG_k hg).1, hk op hg r.2 Y' (pf.tr pr) (c.mk' pr r1) hD⟩
      · exact Or.inl ⟨_, b, (hb hg).tr (pf.tr pr)⟩
theorem bind4 {op : Nat} (h : 25 ≤ op ∧ op ≤ 27) : bindP op = 4 := by
  unfold bindP
  rw [if_neg (by omega), if_neg (by omega), if_neg (by omega), if_neg (by omega), if_pos (by omega)]
theorem plain_cmp {B : Nat → Nat} {L u o p lv od p1 lv1 d op p2 lv2 e : Nat} {f g : Den} (h28 : ¬ isW B L p 28) (h40 : ¬ isG B L p 40) (h : SSum B L u o 1 p lv od p1 lv1 d f) (hno : ∀ op, ¬ OpG B L p1 op) (hg : CmG B L p1 op) (h2 : SSum B L u o 1 (tkE B L p1) lv1 od p2 lv2 e g) (hno2 : ∀ op, ¬ OpG B L p2 op) (hd : d ≤ e + 1) : SPlain B L u o p lv od p2 lv2 (e + 1) (dBin (op - 18) f g) := by
  intro N C P Q hc hl hi hk
  refine plain_mid h28 h40 h hno N C P Q hc hl hi (fun op' hg' N' Y' pf c hD => ?_) (fun z => absurd hg (z op))
  obtain rfl := CmG_inj hg hg'
  have hop := (CmG_k hg).2
  have lo5 : Low 5 (P ++ [(op, 0)]) := low_app (by rw [bind4 hop]; decide)
  have ir : IR (P ++ [(op, 0)]) := hi.app (by omega)
  refine h2 N' (C ++ Y') (P ++ [(op, 0)]) Q c lo5 ir.in32 (fun N2 Y2 R2 Y2' pf2 c2 hR2 hw2 hD2 => ?_)
  refine rn_sum c2.1.2.2.2.1 ((behindSum_so (tst := 1) c2.1 hR2 lo5 ir.in32).mono (fun r hr => ?_))
  obtain ⟨pr, hr⟩ := hr
  rcases hr with ⟨op', R1, R2, o1, _⟩ | ⟨_, hr⟩
  · exact absurd o1 (hno2 op')
  · rcases hr with ⟨z, _⟩ | ⟨_, z, _⟩ | ⟨_, _, hr⟩
    · rcases ir with ir | ir <;> rw [ir] at z <;> exact absurd z (by decide)
    · exact absurd z (by decide)
    · have hcm : cmpR (P ++ [(op, 0)]).reverse = true := by
        rw [List.reverse_append]
        show cmpR ((op, 0) :: P.reverse) = true
        rw [cmpR_cons, if_neg (by simp only []; omega)]
        simp only [decide_eq_true_eq]; omega
      rcases hr with ⟨_, hr⟩ | ⟨z, _⟩
      · subst hr
        refine Or.inr ⟨2, p2, rfl, by show 4 * _ + 2 < 4 * _ + 3; omega, ?_⟩
        refine hk N2 (Y' ++ Y2) (R2 ++ [(op, 0)]) (Y' ++ Y2' ++ [(op, 0)]) (pf.tr pf2) ?_ (fun q hq => ?_) ?_ ?_
        · rw [← List.append_assoc, List.reverse_append]
          rw [List.append_assoc P] at c2; exact c2
        · rcases List.mem_append.mp hq with z | z
          · have := bind56 (hR2 q z); omega
          · have := List.mem_singleton.mp z; subst this
            show 3 ≤ bindP op; rw [bind4 hop]; decide
        · exact wait_op hw2 (by omega)
        · have := DR_bin (k := op - 18) ⟨by omega, by omega⟩ hD (by rw [List.length_append] at hD2; exact hD2) hd
          rw [show op - 18 + 18 = op by omega] at this; exact this
      · rw [hcm] at z; cases z
theorem plain_cmpF1 {B : Nat → Nat} {L u o p lv od pf : Nat} (h28 : ¬ isW B L p 28) (h40 : ¬ isG B L p 40) (h : FSum B L u o 1 p lv od pf) : FPlain B L u o p lv od pf := fun N C P Q hc hl hi hk => rn01 (h N C P Q hc (hl.up (by decide)) hi.in32 hk) (readPlain_eq hc.1 h28 h40)
theorem plain_cmpF2 {B : Nat → Nat} {L u o p lv od p1 lv1 d : Nat} {f : Den} (h28 : ¬ isW B L p 28) (h40 : ¬ isG B L p 40) (h : SSum B L u o 1 p lv od p1 lv1 d f) (hno : ∀ op, ¬ OpG B L p1 op) (hg : ∀ op, ¬ CmG B L p1 op) : FPlain B L u o p lv od (tkS B L p1) := fun N C P Q hc hl hi hk => plain_mid h28 h40 h hno N C P Q hc hl hi (fun op' hg' => absurd hg' (hg op')) (fun _ => hk)
theorem plain_cmpF3 {B : Nat → Nat} {L u o p lv od p1 lv1 d op pf : Nat} {f : Den} (h28 : ¬ isW B L p 28) (h40 : ¬ isG B L p 40) (h : SSum B L u o 1 p lv od p1 lv1 d f) (hno : ∀ op, ¬ OpG B L p1 op) (hg : CmG B L p1 op) (h2 : FSum B L u o 1 (tkE B L p1) lv1 od pf) : FPlain B L u o p lv od pf := by
  intro N C P Q hc hl hi hk
  refine plain_mid h28 h40 h hno N C P Q hc hl hi (fun op' hg' N' Y' pf c hD => ?_) (fun z => absurd hg (z op))
  have hop := (CmG_k hg').2
  exact h2 N' (C ++ Y') (P ++ [(op', 0)]) Q c (low_app (by rw [bind4 hop]; decide)) (hi.app (by omega)).in32 (hk.tr pf)
theorem plain_head {B : Nat → Nat} {L u o p lv od : Nat} {N : Mem} {C P : List (Nat × Nat)} {Q : Mem → Prop} (hc : Ctx B L u o N p lv od C P) (h1 : isW B L p 28 → ∀ N', PF u N N' → RS B L u N' (tkE B L p) lv od C (P ++ [(28, 0)]) → Rn B L u 1 0 N' (tkE B L p) Q) (h2 : isG B L p 40 → ∀ N', PF u N N' → ((od < 8 ∧ RS B L u N' (tkE B L p) lv (od + 1) C (P ++ [(31, 0)]) → Rn B L u 1 0 N' (tkE B L p) Q) ∧ (od = 8 → QB u N' (tkS B L p) Q))) (h3 : isW B L p 28 ∨ isG B L p 40) : Rn B L u 1 0 N p Q := by
  refine rn_plain hc.1.2.2.2.1 (readPlain_so hc.1 (fun g N' pf r => ?_) (fun g N' pf r => ?_) (fun a b => absurd h3 (fun z => z.elim a b)))
  · exact Or.inr ⟨0, tkE B L p, rfl, bud 0 0 (by rw [g.1]; decide), h1 g N' pf r⟩
  · rcases r with r | ⟨r, b⟩
    · exact Or.inr ⟨0, tkE B L p, rfl, bud 0 0 (RS.tkne g), (h2 g N' pf).1 r⟩
    · exact Or.inl ⟨_, b, (h2 g N' pf).2 r⟩
theorem not_not_br {B : Nat → Nat} {L p c j : Nat} (h : isG B L p c) : ¬ isW B L p j := fun z => by have := z.1; have := h.1; omega
theorem plain_not {B : Nat → Nat} {L u o p lv od p2 lv2 d : Nat} {f : Den} (hw : isW B L p 28) (h : SPlain B L u o (tkE B L p) lv od p2 lv2 d f) : SPlain B L u o p lv od p2 lv2 d (dNot f) := by
  intro N C P Q hc hl hi hk
  refine plain_head hc (fun _ N' pf r => ?_) (fun g => absurd hw (not_not_br g)) (Or.inl hw)
  refine h N' C (P ++ [(28, 0)]) Q (hc.mk' pf r) (low_app (by decide)) (hi.app (by decide)) (fun N2 Y R Y' pf2 c2 hR hw2 hD => ?_)
  refine hk N2 Y (R ++ [(28, 0)]) (Y' ++ [(28, 0)]) (pf.tr pf2) ?_ (fun q hq => ?_) ?_ (DR_not hD)
  · rw [List.reverse_append]
    rw [List.append_assoc] at c2; exact c2
  · rcases List.mem_append.mp hq with z | z
    · exact hR q z
    · have := List.mem_singleton.mp z; subst this; decide
  · have h9 : flushP (C ++ Y) R = C ++ Y' := hw2
    exact wait_op (C := C) (Y' := []) (Y2 := Y) (Y := Y') (R := R) (op := 28) (by simpa using h9) (by decide)
theorem plain_notF {B : Nat → Nat} {L u o p lv od pf : Nat} (hw : isW B L p 28) (h : FPlain B L u o (tkE B L p) lv od pf) : FPlain B L u o p lv od pf := by
  intro N C P Q hc hl hi hk
  refine plain_head hc (fun _ N' pf r => ?_) (fun g => absurd hw (not_not_br g)) (Or.inl hw)
  exact h N' C (P ++ [(28, 0)]) Q (hc.mk' pf r) (low_app (by decide)) (hi.app (by decide)) (hk.tr pf)
theorem br_in {od : Nat} (P : List (Nat × Nat)) : Low 1 (P ++ [(31, 0)]) ∧ IR (P ++ [(31, 0)]) ∧ TIn (od + 1) (P ++ [(31, 0)]) := ⟨low_app (by decide), Or.inr (innP_br P 31 0 (by decide)), fun _ => ⟨by omega, P, _, rfl⟩⟩
theorem plain_br {B : Nat → Nat} {L u o p lv od p1 lv1 d : Nat} {f : Den} (hg : isG B L p 40) (ho : od < 8) (h : STest B L u o (tkE B L p) lv (od + 1) p1 lv1 d f) (n26 : ¬ isW B L p1 26) (n27 : ¬ isW B L p1 27) (hg2 : isG B L p1 41) : SPlain B L u o p lv od (tkE B L p1) lv1 d f := by
  intro N C P Q hc hl hi hk
  obtain ⟨b1, b2, b3⟩ := br_in (od := od) P
  refine plain_head hc (fun z => absurd z (not_not_br hg)) (fun _ N' pf => ⟨fun r => ?_, fun z => by omega⟩) (Or.inr hg)
  refine h N' C (P ++ [(31, 0)]) Q (hc.mk' pf r.2) b1 b2 b3 (fun N2 Y R Y' pf2 c2 hR hw2 hD => ?_)
  refine rn_test c2.1.2.2.2.1 ((behindTest_so c2.1 hR b1 b3).mono (fun r2 hr2 => ?_))
  obtain ⟨pr2, hr2⟩ := hr2
  rcases hr2 with ⟨z, _⟩ | ⟨z, _⟩ | ⟨_, _, ⟨z, _⟩ | ⟨_, hr2⟩⟩
  · exact absurd z n27
  · exact absurd z n26
  · rw [innP_br P 31 0 (by decide)] at z; exact absurd z (by decide)
  · rcases hr2 with ⟨_, e1, P', a, hP', r3⟩ | ⟨z, _⟩
    · have : P' = P := (List.append_inj_left' hP' rfl).symm
      subst this
      have hw2 : flushP (C ++ Y) R = C ++ Y' := hw2
      rw [hw2, Nat.add_sub_cancel] at r3
      refine Or.inr ⟨2, tkE B L p1, e1, bud 2 2 (RS.tkne hg2), ?_⟩
      exact hk r2.2 Y' [] Y' ((pf.tr pf2).tr pr2) (by simpa using c2.mk' pr2 r3) (fun q hq => absurd hq (by simp)) rfl hD
    · exact absurd hg2 z
theorem plain_brB {B : Nat → Nat} {L u o p lv od p1 lv1 d : Nat} {f : Den} (hg : isG B L p 40) (ho : od < 8) (h : STest B L u o (tkE B L p) lv (od + 1) p1 lv1 d f) (n26 : ¬ isW B L p1 26) (n27 : ¬ isW B L p1 27) (hg2 : ¬ isG B L p1 41) : FPlain B L u o p lv od (tkS B L p1) := by
  intro N C P Q hc hl hi hk
  obtain ⟨b1, b2, b3⟩ := br_in (od := od) P
  refine plain_head hc (fun z => absurd z (not_not_br hg)) (fun _ N' pf => ⟨fun r => ?_, fun z => by omega⟩) (Or.inr hg)
  refine h N' C (P ++ [(31, 0)]) Q (hc.mk' pf r.2) b1 b2 b3 (fun N2 Y R Y' pf2 c2 hR hw2 hD => ?_)
  refine rn_test c2.1.2.2.2.1 ((behindTest_so c2.1 hR b1 b3).mono (fun r2 hr2 => ?_))
  obtain ⟨pr2, hr2⟩ := hr2
  rcases hr2 with ⟨z, _⟩ | ⟨z, _⟩ | ⟨_, _, ⟨z, _⟩ | ⟨_, hr2⟩⟩
  · exact absurd z n27
  · exact absurd z n26
  · rw [innP_br P 31 0 (by decide)] at z; exact absurd z (by decide)
  · rcases hr2 with ⟨z, _⟩ | ⟨_, b⟩
    · exact absurd z hg2
    · exact Or.inl ⟨_, b, hk.tr ((pf.tr pf2).tr pr2)⟩
theorem plain_brF {B : Nat → Nat} {L u o p lv od pf : Nat} (hg : isG B L p 40) (ho : od < 8) (h : FTest B L u o (tkE B L p) lv (od + 1) pf) : FPlain B L u o p lv od pf := by
  intro N C P Q hc hl hi hk
  obtain ⟨b1, b2, b3⟩ := br_in (od := od) P
  refine plain_head hc (fun z => absurd z (not_not_br hg)) (fun _ N' pf => ⟨fun r => ?_, fun z => by omega⟩) (Or.inr hg)
  exact h N' C (P ++ [(31, 0)]) Q (hc.mk' pf r.2) b1 b2 b3 (hk.tr pf)
theorem plain_br8 {B : Nat → Nat} {L u o p lv od : Nat} (hg : isG B L p 40) (ho : od = 8) : FPlain B L u o p lv od (tkS B L p) := by
  intro N C P Q hc hl hi hk
  exact plain_head hc (fun z => absurd z (not_not_br hg)) (fun _ N' pf => ⟨fun r => by omega, fun _ => hk.tr pf⟩) (Or.inr hg)
/-! both -/
theorem bbase_low {od : Nat} {P : List (Nat × Nat)} (h : BBase od P) : Low 4 P ∧ IR P := by
  obtain ⟨P0, R0, rfl, h1, h2, h3, rfl | ⟨k, rfl⟩⟩ := h
  · exact ⟨by simpa using h1.up (by decide), by simpa using h2⟩
  · exact ⟨low_app (by decide), h2.app (by decide)⟩
theorem both_one {B : Nat → Nat} {L u o p lv od p2 lv2 d : Nat} {f : Den} (h : SPlain B L u o p lv od p2 lv2 d f) : SBoth B L u o p lv od p2 lv2 d f := fun N C P Q hc hb hk => h N C P Q hc (bbase_low hb).1 (bbase_low hb).2 (fun N' Y R Y' pf c hR hw hD => hk N' Y R Y' pf c (fun q hq => by have := hR q hq; omega) hw hD)
theorem both_f1 {B : Nat → Nat} {L u o p lv od pf : Nat} (h : FPlain B L u o p lv od pf) : FBoth B L u o p lv od pf := fun N C P Q hc hb hk => h N C P Q hc (bbase_low hb).1 (bbase_low hb).2 hk
theorem both_op {B : Nat → Nat} {L u o p0 lv0 od p lv d : Nat} {f : Den} (h : SBoth B L u o p0 lv0 od p lv d f) (hw : isW B L p 27) : ∀ N C P Q, Ctx B L u o N p0 lv0 od C P → BBase od P → (∀ N' Y', PF u N N' → Ctx B L u o N' (tkE B L p) lv od ((C ++ Y') ++ [(29, 0)]) (P ++ [(29, (C ++ Y').length)]) → DR o Y' C.length d f → Rn B L u 1 0 N' (tkE B L p) Q) → Rn B L u 1 0 N p0 Q := by
  intro N C P Q hc hb hk
  refine h N C P Q hc hb (fun N' Y R Y' pf c hR hwt hD => ?_)
  obtain ⟨P0, R0, rfl, l0, i0, t0, hR0⟩ := hb
  have hR0' : ∀ q, q ∈ R0 → bindP q.1 = 1 := fun q hq => by
    rcases hR0 with rfl | ⟨k, rfl⟩
    · cases hq
    · have := List.mem_singleton.mp hq; subst this; rfl
  have hRR : ∀ q, q ∈ R ++ R0 → 1 ≤ bindP q.1 := fun q hq => by
    rcases List.mem_append.mp hq with z | z
    · have := hR q z; omega
    · have := hR0' q z; omega
  have c1 : RS B L u N' p lv od (C ++ Y) (P0 ++ (R ++ R0).reverse) := by
    have := c.1
    rw [List.append_assoc, ← List.reverse_append] at this; exact this
  refine rn_test c.1.2.2.2.1 ((behindTest_so c1 hRR l0 t0).mono (fun r hr => ?_))
  obtain ⟨pr, hr⟩ := hr
  rcases hr with ⟨_, R1, R2, o2, o3, o4, o5, o6⟩ | ⟨z, _⟩ | ⟨z, _⟩
  · obtain ⟨rfl, rfl⟩ := split_uniq 2 R R0 R1 R2 hR (fun q hq => by rw [hR0' q hq]; decide) o2 o3 o4
    have hwt : flushP (C ++ Y) R1 = C ++ Y' := hwt
    rw [hwt] at o6
    exact Or.inr ⟨0, tkE B L p, o5, bud 2 0 (by rw [hw.1]; decide), hk r.2 Y' (pf.tr pr) (c.mk' pr o6) hD⟩
  · exact absurd (isW_inj hw z (by decide) (by decide)) (by decide)
  · exact absurd hw z
theorem wait_jump {C Y Y2 R Y2' : List (Nat × Nat)} {op : Nat} (ho : op = 29 ∨ op = 30) (h : flushP (((C ++ Y) ++ [(op, 0)]) ++ Y2) R = ((C ++ Y) ++ [(op, 0)]) ++ Y2') : Wait C (Y ++ [(op, 0)] ++ Y2) (R ++ [(op, (C ++ Y).length)]) (Y ++ (op, (C.length + Y.length + 1 + Y2'.length)) :: Y2') := by
  unfold Wait
  rw [flushP_app, show C ++ (Y ++ [(op, 0)] ++ Y2) = ((C ++ Y) ++ [(op, 0)]) ++ Y2 by simp only [List.append_assoc], h]
  show (if op = 29 ∨ op = 30 then flushP ((((C ++ Y) ++ [(op, 0)]) ++ Y2').set (C ++ Y).length (((((C ++ Y) ++ [(op, 0)]) ++ Y2').getD (C ++ Y).length (0, 0)).1, (((C ++ Y) ++ [(op, 0)]) ++ Y2').length)) [] else _) = _
  rw [if_pos ho]
  have hg : (((C ++ Y) ++ [(op, 0)]) ++ Y2').getD (C ++ Y).length (0, 0) = (op, 0) := by
    rw [List.append_assoc (C ++ Y)]
    exact gD_app_r (X := C ++ Y) (Y := [(op, 0)] ++ Y2') (i := 0)
  rw [hg]
  show (((C ++ Y) ++ [(op, 0)]) ++ Y2').set (C ++ Y).length (op, (((C ++ Y) ++ [(op, 0)]) ++ Y2').length) = _
  rw [List.append_assoc (C ++ Y), List.set_append_right _ _ (Nat.le_refl _), Nat.sub_self]
  show (C ++ Y) ++ ((op, _) :: Y2') = _
  rw [List.append_assoc]
  congr 4
  simp only [List.length_append, List.length_cons, List.length_nil]
  omega
theorem both_step {B : Nat → Nat} {L u o p0 lv0 od p lv d p2 lv2 : Nat} {f g : Den} (h : SBoth B L u o p0 lv0 od p lv d f) (hw : isW B L p 27) (hT : TB f) (h2 : SPlain B L u o (tkE B L p) lv od p2 lv2 d g) : SBoth B L u o p0 lv0 od p2 lv2 d (dJ 11 f g) := by
  intro N C P Q hc hb hk
  refine both_op h hw N C P Q hc hb (fun N' Y' pf c hD => ?_)
  obtain ⟨b1, b2⟩ := bbase_low hb
  refine h2 N' _ _ Q c (low_app (by decide)) (b2.app (by decide)) (fun N2 Y2 R2 Y2' pf2 c2 hR2 hw2 hD2 => ?_)
  refine hk N2 (Y' ++ [(29, 0)] ++ Y2) (R2 ++ [(29, (C ++ Y').length)]) (Y' ++ (29, (C.length + Y'.length + 1 + Y2'.length)) :: Y2') (pf.tr pf2) ?_ (fun q hq => ?_) ?_ ?_
  · have e : C ++ (Y' ++ [(29, 0)] ++ Y2) = ((C ++ Y') ++ [(29, 0)]) ++ Y2 := by simp only [List.append_assoc]
    rw [e, List.reverse_append]
    rw [List.append_assoc P] at c2; exact c2
  · rcases List.mem_append.mp hq with z | z
    · have := hR2 q z; omega
    · have := List.mem_singleton.mp z; subst this; exact (show 2 ≤ bindP 29 by decide)
  · exact wait_jump (Or.inl rfl) hw2
  · have hl := c2.1.2.2.2.2.2.2.2.2.2
    have hs := tkS_le B c2.1.2.1
    have hL := c2.1.1.1
    have hf := (flushP_len R2 ((C ++ Y') ++ [(29, 0)] ++ Y2)).2
    have hw2 : flushP ((C ++ Y') ++ [(29, 0)] ++ Y2) R2 = (C ++ Y') ++ [(29, 0)] ++ Y2' := hw2
    rw [hw2] at hf
    simp only [List.length_append, List.length_cons, List.length_nil, List.length_reverse] at hf hl hD2
    exact DR_J (op := 11) (Or.inl rfl) hT hD hD2 (by omega)
theorem both_fail {B : Nat → Nat} {L u o p0 lv0 od p lv d pf : Nat} {f : Den} (h : SBoth B L u o p0 lv0 od p lv d f) (hw : isW B L p 27) (h2 : FPlain B L u o (tkE B L p) lv od pf) : FBoth B L u o p0 lv0 od pf := by
  intro N C P Q hc hb hk
  obtain ⟨b1, b2⟩ := bbase_low hb
  exact both_op h hw N C P Q hc hb (fun N' Y' pf c hD => h2 N' _ _ Q c (low_app (by decide)) (b2.app (by decide)) (hk.tr pf))
theorem test_one {B : Nat → Nat} {L u o p lv od p2 lv2 d : Nat} {f : Den} (h : SBoth B L u o p lv od p2 lv2 d f) : STest B L u o p lv od p2 lv2 d f := fun N C P Q hc h1 h2 h3 hk => h N C P Q hc ⟨P, [], by simp, h1, h2, h3, Or.inl rfl⟩ (fun N' Y R Y' pf c hR hw hD => hk N' Y R Y' pf c (fun q hq => by have := hR q hq; omega) hw hD)
theorem test_f1 {B : Nat → Nat} {L u o p lv od pf : Nat} (h : FBoth B L u o p lv od pf) : FTest B L u o p lv od pf := fun N C P Q hc h1 h2 h3 hk => h N C P Q hc ⟨P, [], by simp, h1, h2, h3, Or.inl rfl⟩ hk
theorem test_op {B : Nat → Nat} {L u o p0 lv0 od p lv d : Nat} {f : Den} (h : STest B L u o p0 lv0 od p lv d f) (hw : isW B L p 26) : ∀ N C P Q, Ctx B L u o N p0 lv0 od C P → Low 1 P → IR P → TIn od P → (∀ N' Y', PF u N N' → Ctx B L u o N' (tkE B L p) lv od ((C ++ Y') ++ [(30, 0)]) (P ++ [(30, (C ++ Y').length)]) → DR o Y' C.length d f → Rn B L u 1 0 N' (tkE B L p) Q) → Rn B L u 1 0 N p0 Q := by
  intro N C P Q hc h1 h2 h3 hk
  refine h N C P Q hc h1 h2 h3 (fun N' Y R Y' pf c hR hwt hD => ?_)
  refine rn_test c.1.2.2.2.1 ((behindTest_so c.1 hR h1 h3).mono (fun r hr => ?_))
  obtain ⟨pr, hr⟩ := hr
  rcases hr with ⟨z, _⟩ | ⟨_, o5, o6⟩ | ⟨_, z, _⟩
  · exact absurd (isW_inj hw z (by decide) (by decide)) (by decide)
  · have hwt : flushP (C ++ Y) R = C ++ Y' := hwt
    rw [hwt] at o6
    exact Or.inr ⟨0, tkE B L p, o5, bud 2 0 (by rw [hw.1]; decide), hk r.2 Y' (pf.tr pr) (c.mk' pr o6) hD⟩
  · exact absurd hw z
theorem test_step {B : Nat → Nat} {L u o p0 lv0 od p lv d p2 lv2 : Nat} {f g : Den} (h : STest B L u o p0 lv0 od p lv d f) (hw : isW B L p 26) (hT : TB f) (h2 : SBoth B L u o (tkE B L p) lv od p2 lv2 d g) : STest B L u o p0 lv0 od p2 lv2 d (dJ 12 f g) := by
  intro N C P Q hc h1 h3 h4 hk
  refine test_op h hw N C P Q hc h1 h3 h4 (fun N' Y' pf c hD => ?_)
  refine h2 N' _ _ Q c ⟨P, [(30, (C ++ Y').length)], rfl, h1, h3, h4, Or.inr ⟨_, rfl⟩⟩ (fun N2 Y2 R2 Y2' pf2 c2 hR2 hw2 hD2 => ?_)
  refine hk N2 (Y' ++ [(30, 0)] ++ Y2) (R2 ++ [(30, (C ++ Y').length)]) (Y' ++ (30, (C.length + Y'.length + 1 + Y2'.length)) :: Y2') (pf.tr pf2) ?_ (fun q hq => ?_) ?_ ?_
  · have e : C ++ (Y' ++ [(30, 0)] ++ Y2) = ((C ++ Y') ++ [(30, 0)]) ++ Y2 := by simp only [List.append_assoc]
    rw [e, List.reverse_append]
    rw [List.append_assoc P] at c2; exact c2
  · rcases List.mem_append.mp hq with z | z
    · have := hR2 q z; omega
    · have := List.mem_singleton.mp z; subst this; exact (show 1 ≤ bindP 30 by decide)
  · exact wait_jump (Or.inr rfl) hw2
  · have hl := c2.1.2.2.2.2.2.2.2.2.2
    have hs := tkS_le B c2.1.2.1
    have hL := c2.1.1.1
    have hf := (flushP_len R2 ((C ++ Y') ++ [(30, 0)] ++ Y2)).2
    have hw2 : flushP ((C ++ Y') ++ [(30, 0)] ++ Y2) R2 = (C ++ Y') ++ [(30, 0)] ++ Y2' := hw2
    rw [hw2] at hf
    simp only [List.length_append, List.length_cons, List.length_nil, List.length_reverse] at hf hl hD2
    exact DR_J (op := 12) (Or.inr rfl) hT hD hD2 (by omega)
theorem test_fail {B : Nat → Nat} {L u o p0 lv0 od p lv d pf : Nat} {f : Den} (h : STest B L u o p0 lv0 od p lv d f) (hw : isW B L p 26) (h2 : FBoth B L u o (tkE B L p) lv od pf) : FTest B L u o p0 lv0 od pf := by
  intro N C P Q hc h1 h3 h4 hk
  exact test_op h hw N C P Q hc h1 h3 h4 (fun N' Y' pf c hD => h2 N' _ _ Q c ⟨P, [(30, (C ++ Y').length)], rfl, h1, h3, h4, Or.inr ⟨_, rfl⟩⟩ (hk.tr pf))
