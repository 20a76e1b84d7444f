/-! ===== how the reference goes over parts, terms, sums ===== -/
def Ctx (B : Nat → Nat) (L u o : Nat) (N : Mem) (p lv od : Nat) (C P : List (Nat × Nat)) : Prop := RS B L u N p lv od C P ∧ mI N u 20 = Int32.ofNat o ∧ (o = 0 ∨ o = 1) ∧ KW u N
theorem Ctx.mk' {B : Nat → Nat} {L u o : Nat} {N N' : Mem} {p lv od p' lv' od' : Nat} {C P C' P' : List (Nat × Nat)} (h : Ctx B L u o N p lv od C P) (e : PF u N N') (r : RS B L u N' p' lv' od' C' P') : Ctx B L u o N' p' lv' od' C' P' := ⟨r, by rw [e.2.1 20 (by decide)]; exact h.2.1, h.2.2.1, h.2.2.2.keep e⟩
def SPart (B : Nat → Nat) (L u o : Nat) (tst : Int32) (p lv od p' lv' d : Nat) (f : Den) : Prop := ∀ N C P Q, Ctx B L u o N p lv od C P → (∀ N' Y, PF u N N' → Ctx B L u o N' p' lv' od (C ++ Y) P → DR o Y C.length d f → Rn B L u tst 3 N' p' Q) → Rn B L u tst 1 N p Q
def FPart (B : Nat → Nat) (L u o : Nat) (tst : Int32) (p lv od pf : Nat) : Prop := ∀ N C P Q, Ctx B L u o N p lv od C P → QB u N pf Q → Rn B L u tst 1 N p Q
/-- what lies below a term: what binds less, and perhaps a sign of a sum -/
def Low (n : Nat) (P : List (Nat × Nat)) : Prop := P = [] ∨ bindP (P.getD (P.length - 1) (0, 0)).1 < n
def In32 (od : Nat) (P : List (Nat × Nat)) : Prop := innP P = 32 → 1 ≤ od ∧ ∃ P', P = P' ++ [(32, 0)]
def TBase (od : Nat) (P : List (Nat × Nat)) : Prop := ∃ P0 R0, P = P0 ++ R0.reverse ∧ Low 5 P0 ∧ In32 od P0 ∧ (R0 = [] ∨ ∃ op, (op = 20 ∨ op = 21) ∧ R0 = [(op, 0)])
def Wait (C Y R Y' : List (Nat × Nat)) : Prop := flushP (C ++ Y) R = C ++ Y'
def STerm (B : Nat → Nat) (L u o : Nat) (tst : Int32) (p lv od p' lv' d : Nat) (f : Den) : Prop := ∀ N C P Q, Ctx B L u o N p lv od C P → TBase od P → (∀ N' Y R Y', PF u N N' → Ctx B L u o N' p' lv' od (C ++ Y) (P ++ R.reverse) → (∀ q, q ∈ R → 22 ≤ q.1 ∧ q.1 ≤ 24) → Wait C Y R Y' → DR o Y' C.length d f → Rn B L u tst 3 N' p' Q) → Rn B L u tst 1 N p Q
def FTerm (B : Nat → Nat) (L u o : Nat) (tst : Int32) (p lv od pf : Nat) : Prop := ∀ N C P Q, Ctx B L u o N p lv od C P → TBase od P → QB u N pf Q → Rn B L u tst 1 N p Q
def SSum (B : Nat → Nat) (L u o : Nat) (tst : Int32) (p lv od p' lv' d : Nat) (f : Den) : Prop := ∀ N C P Q, Ctx B L u o N p lv od C P → Low 5 P → In32 od P → (∀ N' Y R Y', PF u N N' → Ctx B L u o N' p' lv' od (C ++ Y) (P ++ R.reverse) → (∀ q, q ∈ R → 20 ≤ q.1 ∧ q.1 ≤ 24) → Wait C Y R Y' → DR o Y' C.length d f → Rn B L u tst 3 N' p' Q) → Rn B L u tst 1 N p Q
def FSum (B : Nat → Nat) (L u o : Nat) (tst : Int32) (p lv od pf : Nat) : Prop := ∀ N C P Q, Ctx B L u o N p lv od C P → Low 5 P → In32 od P → QB u N pf Q → Rn B L u tst 1 N p Q
theorem split_uniq (n : Nat) : ∀ (R R0 R1 R2 : List (Nat × Nat)), (∀ q, q ∈ R → n ≤ bindP q.1) → (∀ q, q ∈ R0 → bindP q.1 < n) → R ++ R0 = R1 ++ R2 → (∀ q, q ∈ R1 → n ≤ bindP q.1) → (R2 = [] ∨ ∃ a R', R2 = a :: R' ∧ bindP a.1 < n) → R1 = R ∧ R2 = R0
  | [], R0, [], R2, _, _, h3, _, _ => ⟨rfl, h3.symm⟩
  | [], R0, a :: R1, R2, _, h2, h3, h4, _ => by
    have h3 : R0 = a :: (R1 ++ R2) := h3
    have := h2 a (by rw [h3]; exact List.mem_cons_self)
    have := h4 a List.mem_cons_self
    omega
  | a :: R, R0, [], R2, h1, _, h3, _, h5 => by
    have h3 : a :: (R ++ R0) = R2 := h3
    rcases h5 with h5 | ⟨b, R', h5, h6⟩
    · rw [h5] at h3; cases h3
    · rw [h5] at h3
      cases h3
      have := h1 a List.mem_cons_self
      omega
  | a :: R, R0, b :: R1, R2, h1, h2, h3, h4, h5 => by
    have h3 : a :: (R ++ R0) = b :: (R1 ++ R2) := h3
    obtain ⟨e0, h6⟩ := List.cons.inj h3
    subst e0
    obtain ⟨e1, e2⟩ := split_uniq n R R0 R1 R2 (fun q hq => h1 q (List.mem_cons_of_mem _ hq)) h2 h6 (fun q hq => h4 q (List.mem_cons_of_mem _ hq)) h5
    rw [e1, e2]; exact ⟨rfl, rfl⟩
theorem OpG_inj {B : Nat → Nat} {L p a b : Nat} (h : OpG B L p a) (h2 : OpG B L p b) : a = b := by
  rcases h with ⟨h, e⟩ | ⟨h, e⟩ | ⟨h, e⟩ | ⟨h, e⟩ | ⟨h, e⟩ <;> rcases h2 with ⟨h2, e2⟩ | ⟨h2, e2⟩ | ⟨h2, e2⟩ | ⟨h2, e2⟩ | ⟨h2, e2⟩ <;> first | (rw [e, e2]; done) | (exact absurd (isG_inj h h2) (by decide))
theorem OpG_k {B : Nat → Nat} {L p a : Nat} (h : OpG B L p a) : tkK B L p ≠ 0 := by
  rcases h with ⟨z, _⟩ | ⟨z, _⟩ | ⟨z, _⟩ | ⟨z, _⟩ | ⟨z, _⟩ <;> exact RS.tkne z
theorem bind6 {op : Nat} (h : 22 ≤ op ∧ op ≤ 24) : bindP op = 6 := by
  unfold bindP
  rw [if_neg (by omega), if_neg (by omega), if_neg (by omega), if_neg (by omega), if_neg (by omega), if_pos (by omega)]
theorem bind5 {op : Nat} (h : op = 20 ∨ op = 21) : bindP op = 5 := by
  rcases h with rfl | rfl <;> rfl
theorem bind56 {op : Nat} (h : 20 ≤ op ∧ op ≤ 24) : 5 ≤ bindP op := by
  unfold bindP
  rw [if_neg (by omega), if_neg (by omega), if_neg (by omega), if_neg (by omega), if_neg (by omega)]
  split <;> omega
theorem low_app {P : List (Nat × Nat)} {n op x : Nat} (h : bindP op < n) : Low n (P ++ [(op, x)]) := by
  refine Or.inr ?_
  have := gD_app_r (X := P) (Y := [(op, x)]) (i := 0)
  simp only [List.length_append, List.length_cons, List.length_nil, Nat.add_zero] at this ⊢
  rw [show P.length + (0 + 1) - 1 = P.length by omega, this]; exact h
theorem wait_op {C Y R Y' Y2 : List (Nat × Nat)} {op : Nat} (h : flushP ((C ++ Y') ++ Y2) R = (C ++ Y') ++ Y) (ho : op ≠ 29 ∧ op ≠ 30) : Wait C (Y' ++ Y2) (R ++ [(op, 0)]) (Y' ++ Y ++ [(op, 0)]) := by
  unfold Wait
  rw [flushP_app, ← List.append_assoc, h]
  show (if op = 29 ∨ op = 30 then _ else flushP (C ++ Y' ++ Y ++ [(op, 0)]) []) = _
  rw [if_neg (by omega)]
  show C ++ Y' ++ Y ++ [(op, 0)] = _
  simp only [List.append_assoc]
/-- behind a part: a sign of a term, and a part more -/
theorem term_op {B : Nat → Nat} {L u o p0 lv0 od p lv d op : Nat} {tst : Int32} {f : Den} (h : STerm B L u o tst p0 lv0 od p lv d f) (ho : OpG B L p op) (hop : 22 ≤ op ∧ op ≤ 24) : ∀ N C P Q, Ctx B L u o N p0 lv0 od C P → TBase od P → (∀ N' Y', PF u N N' → Ctx B L u o N' (tkE B L p) lv od (C ++ Y') (P ++ [(op, 0)]) → DR o Y' C.length d f → Rn B L u tst 1 N' (tkE B L p) Q) → Rn B L u tst 1 N p0 Q := by
  intro N C P Q hc hb hk
  refine h N C P Q hc hb (fun N' Y R Y' pf c hR hw hD => ?_)
  obtain ⟨P0, R0, rfl, l0, i0, hR0⟩ := hb
  have hRR : ∀ q, q ∈ R ++ R0 → 20 ≤ q.1 ∧ q.1 ≤ 24 := fun q hq => by
    rcases List.mem_append.mp hq with z | z
    · have := hR q z; omega
    · rcases hR0 with rfl | ⟨op', h1, rfl⟩
      · cases z
      · have := List.mem_singleton.mp z; subst this; simp only []; omega
  have c1 : RS B L u N' p lv od (C ++ Y) (P0 ++ (R ++ R0).reverse) := by
    have := c.1
    rw [List.append_assoc, ← List.reverse_append] at this; exact this
  refine rn_sum c.1.2.2.2.1 ((behindSum_so (tst := tst) c1 hRR l0 i0).mono (fun r hr => ?_))
  obtain ⟨pr, hr⟩ := hr
  rcases hr with ⟨op', R1, R2, o1, o2, o3, o4, o5, o6⟩ | ⟨hno, _⟩
  · obtain rfl := OpG_inj ho o1
    rw [bind6 hop] at o3 o4
    obtain ⟨rfl, rfl⟩ := split_uniq 6 R R0 R1 R2 (fun q hq => by rw [bind6 (hR q hq)]; exact Nat.le_refl _) (fun q hq => by
      rcases hR0 with rfl | ⟨op', h1, rfl⟩
      · cases hq
      · have := List.mem_singleton.mp hq; subst this; rw [bind5 h1]; decide) o2 o3 o4
    refine Or.inr ⟨1, tkE B L p, o5, bud 3 1 (OpG_k ho), hk r.2 Y' (pf.tr pr) ?_ hD⟩
    have hw : flushP (C ++ Y) R1 = C ++ Y' := hw
    rw [hw] at o6
    exact c.mk' pr o6
  · exact absurd ho (hno op)
theorem term_step {B : Nat → Nat} {L u o p0 lv0 od p lv d op p2 lv2 e : Nat} {tst : Int32} {f g : Den} (h : STerm B L u o tst p0 lv0 od p lv d f) (ho : OpG B L p op) (hop : 22 ≤ op ∧ op ≤ 24) (h2 : SPart B L u o tst (tkE B L p) lv od p2 lv2 e g) (hd : d ≤ e + 1) : STerm B L u o tst p0 lv0 od p2 lv2 (e + 1) (dBin (op - 18) f g) := by
  intro N C P Q hc hb hk
  refine term_op h ho hop N C P Q hc hb (fun N' Y' pf c hD => ?_)
  refine h2 N' (C ++ Y') (P ++ [(op, 0)]) Q c (fun N2 Y2 pf2 c2 hD2 => ?_)
  refine hk N2 (Y' ++ Y2) [(op, 0)] (Y' ++ Y2 ++ [(op, 0)]) (pf.tr pf2) ?_ (fun q hq => ?_) ?_ ?_
  · rw [← List.append_assoc]; exact c2
  · have := List.mem_singleton.mp hq; subst this; exact hop
  · exact wait_op (R := []) rfl (by omega)
  · have := DR_bin (k := op - 18) ⟨by omega, by omega⟩ hD (by rw [List.length_append] at hD2; exact hD2) hd
    rw [show op - 18 + 18 = op by omega] at this; exact this
theorem term_fail {B : Nat → Nat} {L u o p0 lv0 od p lv d op pf : Nat} {tst : Int32} {f : Den} (h : STerm B L u o tst p0 lv0 od p lv d f) (ho : OpG B L p op) (hop : 22 ≤ op ∧ op ≤ 24) (h2 : FPart B L u o tst (tkE B L p) lv od pf) : FTerm B L u o tst p0 lv0 od pf := by
  intro N C P Q hc hb hk
  exact term_op h ho hop N C P Q hc hb (fun N' Y' pf c hD => h2 N' (C ++ Y') (P ++ [(op, 0)]) Q c (hk.tr pf))
theorem term_one {B : Nat → Nat} {L u o p0 lv0 od p lv d : Nat} {tst : Int32} {f : Den} (h : SPart B L u o tst p0 lv0 od p lv d f) : STerm B L u o tst p0 lv0 od p lv d f := by
  intro N C P Q hc hb hk
  exact h N C P Q hc (fun N' Y pf c hD => hk N' Y [] Y pf (by simpa using c) (fun q hq => absurd hq (by simp)) rfl hD)
theorem term_f1 {B : Nat → Nat} {L u o p0 lv0 od pf : Nat} {tst : Int32} (h : FPart B L u o tst p0 lv0 od pf) : FTerm B L u o tst p0 lv0 od pf := fun N C P Q hc _ hk => h N C P Q hc hk
theorem tbase0 {od : Nat} {P : List (Nat × Nat)} (h : Low 5 P) (h2 : In32 od P) : TBase od P := ⟨P, [], by simp, h, h2, Or.inl rfl⟩
theorem sum_one {B : Nat → Nat} {L u o p0 lv0 od p lv d : Nat} {tst : Int32} {f : Den} (h : STerm B L u o tst p0 lv0 od p lv d f) : SSum B L u o tst p0 lv0 od p lv d f := fun N C P Q hc hl hi hk => h N C P Q hc (tbase0 hl hi) (fun N' Y R Y' pf c hR hw hD => hk N' Y R Y' pf c (fun q hq => by have := hR q hq; omega) hw hD)
theorem sum_f1 {B : Nat → Nat} {L u o p0 lv0 od pf : Nat} {tst : Int32} (h : FTerm B L u o tst p0 lv0 od pf) : FSum B L u o tst p0 lv0 od pf := fun N C P Q hc hl hi hk => h N C P Q hc (tbase0 hl hi) hk
theorem sum_op {B : Nat → Nat} {L u o p0 lv0 od p lv d op : Nat} {tst : Int32} {f : Den} (h : SSum B L u o tst p0 lv0 od p lv d f) (ho : OpG B L p op) (hop : op = 20 ∨ op = 21) : ∀ N C P Q, Ctx B L u o N p0 lv0 od C P → Low 5 P → In32 od P → (∀ N' Y', PF u N N' → Ctx B L u o N' (tkE B L p) lv od (C ++ Y') (P ++ [(op, 0)]) → DR o Y' C.length d f → Rn B L u tst 1 N' (tkE B L p) Q) → Rn B L u tst 1 N p0 Q := by
  intro N C P Q hc hl hi hk
  refine h N C P Q hc hl hi (fun N' Y R Y' pf c hR hw hD => ?_)
  refine rn_sum c.1.2.2.2.1 ((behindSum_so (tst := tst) c.1 hR hl hi).mono (fun r hr => ?_))
  obtain ⟨pr, hr⟩ := hr
  rcases hr with ⟨op', R1, R2, o1, o2, o3, o4, o5, o6⟩ | ⟨hno, _⟩
  · obtain rfl := OpG_inj ho o1
    rw [bind5 hop] at o3 o4
    obtain ⟨rfl, rfl⟩ := split_uniq 5 R [] R1 R2 (fun q hq => bind56 (hR q hq)) (fun q hq => absurd hq (by simp)) (by rw [List.append_nil]; exact o2) o3 o4
    refine Or.inr ⟨1, tkE B L p, o5, bud 3 1 (OpG_k ho), hk r.2 Y' (pf.tr pr) ?_ hD⟩
    have hw : flushP (C ++ Y) R1 = C ++ Y' := hw
    rw [hw] at o6
    exact c.mk' pr (by simpa using o6)
  · exact absurd ho (hno op)
theorem tbase1 {od op : Nat} {P : List (Nat × Nat)} (h : Low 5 P) (h2 : In32 od P) (ho : op = 20 ∨ op = 21) : TBase od (P ++ [(op, 0)]) := ⟨P, [(op, 0)], rfl, h, h2, Or.inr ⟨op, ho, rfl⟩⟩
theorem sum_step {B : Nat → Nat} {L u o p0 lv0 od p lv d op p2 lv2 e : Nat} {tst : Int32} {f g : Den} (h : SSum B L u o tst p0 lv0 od p lv d f) (ho : OpG B L p op) (hop : op = 20 ∨ op = 21) (h2 : STerm B L u o tst (tkE B L p) lv od p2 lv2 e g) (hd : d ≤ e + 1) : SSum B L u o tst p0 lv0 od p2 lv2 (e + 1) (dBin (op - 18) f g) := by
  intro N C P Q hc hl hi hk
  refine sum_op h ho hop N C P Q hc hl hi (fun N' Y' pf c hD => ?_)
  refine h2 N' (C ++ Y') (P ++ [(op, 0)]) Q c (tbase1 hl hi hop) (fun N2 Y2 R2 Y2' pf2 c2 hR2 hw2 hD2 => ?_)
  refine hk N2 (Y' ++ Y2) (R2 ++ [(op, 0)]) (Y' ++ Y2' ++ [(op, 0)]) (pf.tr pf2) ?_ (fun q hq => ?_) ?_ ?_
  · rw [← List.append_assoc, List.reverse_append]
    rw [List.append_assoc P] at c2; exact c2
  · rcases List.mem_append.mp hq with z | z
    · have := hR2 q z; omega
    · have := List.mem_singleton.mp z; subst this; simp only []; omega
  · exact wait_op hw2 (by omega)
  · have := DR_bin (k := op - 18) ⟨by omega, by omega⟩ hD (by rw [List.length_append] at hD2; exact hD2) hd
    rw [show op - 18 + 18 = op by omega] at this; exact this
theorem sum_fail {B : Nat → Nat} {L u o p0 lv0 od p lv d op pf : Nat} {tst : Int32} {f : Den} (h : SSum B L u o tst p0 lv0 od p lv d f) (ho : OpG B L p op) (hop : op = 20 ∨ op = 21) (h2 : FTerm B L u o tst (tkE B L p) lv od pf) : FSum B L u o tst p0 lv0 od pf := by
  intro N C P Q hc hl hi hk
  exact sum_op h ho hop N C P Q hc hl hi (fun N' Y' pf c hD => h2 N' (C ++ Y') (P ++ [(op, 0)]) Q c (tbase1 hl hi hop) (hk.tr pf))
/-! parts -/
theorem leaf_fun {B : Nat → Nat} {L o p op x st w q op' x' st' w' q' : Nat} (h : Leaf B L o p op x st w q) (h2 : Leaf B L o p op' x' st' w' q') : op = op' ∧ x = x' ∧ st = st' ∧ w = w' ∧ q = q' := by
  have lw : ∀ k, k < 6 → ([11, 12, 13, 14, 10, 15] : List Nat).getD k 0 < 29 := by decide
  have lj : ∀ k, k < 6 → ∀ k', k' < 6 → ([11, 12, 13, 14, 10, 15] : List Nat).getD k 0 = ([11, 12, 13, 14, 10, 15] : List Nat).getD k' 0 → k = k' := by decide
  rcases h with ⟨a1, a2, a3, a4, a5, a6, a7⟩ | ⟨o0, k, a1, a2, a3, a4, a5, a6, a7⟩ | ⟨o1, k, a1, a2, a3, a4, a5, a6, a7⟩ | ⟨o1, k, a1, a2, a3, a4, a5, a6, a7, a8, a9⟩ <;> rcases h2 with ⟨b1, b2, b3, b4, b5, b6, b7⟩ | ⟨p0, k', b1, b2, b3, b4, b5, b6, b7⟩ | ⟨p1, k', b1, b2, b3, b4, b5, b6, b7⟩ | ⟨p1, k', b1, b2, b3, b4, b5, b6, b7, b8, b9⟩
  · subst a3 a4 a5 a6 a7 b3 b4 b5 b6 b7; exact ⟨rfl, rfl, rfl, rfl, rfl⟩
  · have := b2.1; omega
  · have := b2.1; omega
  · have := b2.1; omega
  · have := a2.1; omega
  · obtain rfl := lj k a1 k' b1 (isW_inj a2 b2 (lw k a1) (lw k' b1))
    subst a3 a4 a5 a6 a7 b3 b4 b5 b6 b7; exact ⟨rfl, rfl, rfl, rfl, rfl⟩
  · omega
  · omega
  · have := a2.1; omega
  · omega
  · have := isW_inj a2 b2 (by omega) (by omega)
    obtain rfl : k = k' := by omega
    subst a3 a4 a5 a6 a7 b3 b4 b5 b6 b7; exact ⟨rfl, rfl, rfl, rfl, rfl⟩
  · have := isW_inj a2 b2 (by omega) (by omega); omega
  · have := a2.1; omega
  · omega
  · have := isW_inj a2 b2 (by omega) (by omega); omega
  · have := isW_inj a2 b2 (by omega) (by omega)
    obtain rfl : k = k' := by omega
    subst a5 a6 a7 a8 a9 b5 b6 b7 b8 b9; exact ⟨rfl, rfl, rfl, rfl, rfl⟩
theorem leaf_excl {B : Nat → Nat} {L o p op x st w q lv f : Nat} (h : Leaf B L o p op x st w q) (h2 : LeafB B L o p lv f) (hlv : lv < 50) : False := by
  have lw : ∀ k, k < 6 → ([11, 12, 13, 14, 10, 15] : List Nat).getD k 0 < 29 := by decide
  rcases h2 with ⟨b1, b2⟩ | ⟨p1, -, k', b1, b2, b3, b4⟩
  · rcases b2 with b2 | ⟨b2, b3, b4⟩
    · omega
    · rcases h with ⟨a1, a2, _⟩ | ⟨o0, k, a1, a2, _⟩ | ⟨o1, k, a1, a2, _⟩ | ⟨o1, k, a1, a2, _⟩
      · exact b2 ⟨a1, a2⟩
      · exact b3 o0 k a1 a2
      · exact b4 o1 k (by omega) a2
      · exact b4 o1 k (by omega) a2
  · rcases h with ⟨a1, a2, _⟩ | ⟨o0, k, a1, a2, _⟩ | ⟨o1, k, a1, a2, _⟩ | ⟨o1, k, a1, a2, a3, a4, _⟩
    · have := b2.1; omega
    · omega
    · have := isW_inj a2 b2 (by omega) (by omega); omega
    · have := isW_inj a2 b2 (by omega) (by omega)
      obtain rfl : k = k' := by omega
      exact b3 ⟨a3, a4⟩
theorem leafB_fun {B : Nat → Nat} {L o p lv f f' : Nat} (h : LeafB B L o p lv f) (h2 : LeafB B L o p lv f') : f = f' := by
  rcases h with ⟨a1, a2⟩ | ⟨p1, q1, k, a1, a2, a3, a4⟩ <;> rcases h2 with ⟨b1, b2⟩ | ⟨p2, q2, k', b1, b2, b3, b4⟩
  · rw [a1, b1]
  · rcases a2 with a2 | ⟨_, _, a2⟩
    · omega
    · exact absurd b2 (a2 p2 k' (by omega))
  · rcases b2 with b2 | ⟨_, _, b2⟩
    · omega
    · exact absurd a2 (b2 p1 k (by omega))
  · rw [a4, b4]
theorem Leaf.k {B : Nat → Nat} {L o p op x st w q : Nat} (h : Leaf B L o p op x st w q) : tkK B L p ≠ 0 ∧ ¬ isG B L p 91 ∧ (p ≤ L → q ≤ L ∧ tkS B L (tkE B L p) ≤ tkS B L q) := by
  rcases h with ⟨a1, a2, a3, a4, a5, a6, a7⟩ | ⟨o0, k, a1, a2, a3, a4, a5, a6, a7⟩ | ⟨o1, k, a1, a2, a3, a4, a5, a6, a7⟩ | ⟨o1, k, a1, a2, a3, a4, a5, a6, a7, a8, a9⟩
  · exact ⟨by omega, fun z => by have := z.1; omega, fun h => by rw [a7]; exact ⟨tkE_le B h, Nat.le_refl _⟩⟩
  · exact ⟨by have := a2.1; omega, fun z => by have := z.1; have := a2.1; omega, fun h => by rw [a7]; exact ⟨tkE_le B h, Nat.le_refl _⟩⟩
  · exact ⟨by have := a2.1; omega, fun z => by have := z.1; have := a2.1; omega, fun h => by rw [a7]; exact ⟨tkE_le B h, Nat.le_refl _⟩⟩
  · exact ⟨by have := a2.1; omega, fun z => by have := z.1; have := a2.1; omega, fun h => by rw [a9]; exact ⟨tkE_le B (tkE_le B h), tkS_mono B (tkE_le B h)⟩⟩
def dLeaf (st w : Nat) : Den := fun tl => some (if st = 0 then (Int32.ofNat w).toInt64 else (tl (Int32.ofNat w)).toInt64)
theorem DC_leaf {st w a : Nat} (h : st = 0 ∨ st = 1) : DC [(st, w)] a 1 (dLeaf st w) := by
  rcases h with rfl | rfl
  · exact DC_num a w
  · exact DC_word a w
theorem DR_leaf' {B : Nat → Nat} {L o p op x st w q a : Nat} (h : Leaf B L o p op x st w q) : DR o [(op, x)] a 1 (dLeaf st w) ∧ (st = 0 ∨ st = 1) := by
  rcases h with ⟨a1, a2, a3, a4, a5, a6, a7⟩ | ⟨o0, k, a1, a2, a3, a4, a5, a6, a7⟩ | ⟨o1, k, a1, a2, a3, a4, a5, a6, a7⟩ | ⟨o1, k, a1, a2, a3, a4, a5, a6, a7, a8, a9⟩
  · subst a3 a4 a5 a6
    exact ⟨DR_leaf o a 0 _ _ (by decide) (by omega) (by omega) (by omega) (fun lv tl hc => by unfold dLeaf; rw [if_pos rfl]; exact congrArg some (hc.1 _ a2).symm), Or.inl rfl⟩
  · subst a3 a4 a5 a6
    exact ⟨DR_leaf o a _ _ _ (by omega) (by omega) (by omega) (by omega) (fun lv tl hc => by unfold dLeaf; rw [if_neg (by decide)]; exact congrArg some (hc.2.1 o0 k a1).symm), Or.inr rfl⟩
  · subst a3 a4 a5 a6
    exact ⟨DR_leaf o a _ _ _ (by omega) (by omega) (by omega) (by omega) (fun lv tl hc => by unfold dLeaf; rw [if_neg (by decide)]; exact congrArg some ((hc.2.2 o1).1 _ a1).symm), Or.inr rfl⟩
  · subst a5 a6 a7 a8
    refine ⟨DR_leaf o a _ _ _ (by omega) (by rcases a1 with rfl | rfl <;> simp at a4 <;> omega) (by omega) (fun _ => Or.inr (by rcases a1 with rfl | rfl <;> simp at a4 <;> omega)) (fun lv tl hc => ?_), Or.inr rfl⟩
    unfold dLeaf; rw [if_neg (by decide)]
    rcases a1 with rfl | rfl
    · rw [if_pos rfl] at a4 ⊢; exact congrArg some ((hc.2.2 o1).2.1 _ a4).symm
    · rw [if_neg (by decide)] at a4 ⊢; exact congrArg some ((hc.2.2 o1).2.2 _ a4).symm
theorem part_leaf {B : Nat → Nat} {L u o p lv od op x st w q : Nat} {tst : Int32} (h : Leaf B L o p op x st w q) (hlv : lv < 50) : SPart B L u o tst p lv od q (lv + 1) 1 (dLeaf st w) := by
  intro N C P Q hc hk
  refine rn_part hc.1.2.2.2.1 ((rpart_so hc.1 hc.2.1 hc.2.2.1 hc.2.2.2).mono (fun r hr => ?_))
  obtain ⟨pr, hr⟩ := hr
  rcases hr with ⟨g, _⟩ | ⟨_, hr⟩
  · exact absurd g h.k.2.1
  · rcases hr with ⟨_, op', x', st', w', q', l', e1, r1⟩ | ⟨f, l', _⟩
    · obtain ⟨rfl, rfl, rfl, rfl, rfl⟩ := leaf_fun h l'
      exact Or.inr ⟨3, q, e1, bud2 1 3 h.k.1 (h.k.2.2 hc.1.2.1).2, hk r.2 [(op, x)] pr (hc.mk' pr r1) (DR_leaf' h).1⟩
    · exact (leaf_excl h l' hlv).elim
theorem part_leafB {B : Nat → Nat} {L u o p lv od f : Nat} {tst : Int32} (h : LeafB B L o p lv f) (hg : ¬ isG B L p 91) : FPart B L u o tst p lv od f := by
  intro N C P Q hc hk
  refine rn_part hc.1.2.2.2.1 ((rpart_so hc.1 hc.2.1 hc.2.2.1 hc.2.2.2).mono (fun r hr => ?_))
  obtain ⟨pr, hr⟩ := hr
  rcases hr with ⟨g, _⟩ | ⟨_, hr⟩
  · exact absurd g hg
  · rcases hr with ⟨hlv, op', x', st', w', q', l', e1, r1⟩ | ⟨f', l', b⟩
    · exact (leaf_excl l' h hlv).elim
    · refine Or.inl ⟨f', b, ?_⟩
      rw [leafB_fun l' h]; exact hk.tr pr
theorem part_open {B : Nat → Nat} {L u o p lv od p2 lv2 d : Nat} {tst : Int32} {f : Den} (hg : isG B L p 91) (ho : od < 8) (h : SSum B L u o tst (tkE B L p) lv (od + 1) p2 lv2 d f) (hno : ∀ op, ¬ OpG B L p2 op) (hg2 : isG B L p2 93) : SPart B L u o tst p lv od (tkE B L p2) lv2 d f := by
  intro N C P Q hc hk
  refine rn_part hc.1.2.2.2.1 ((rpart_so hc.1 hc.2.1 hc.2.2.1 hc.2.2.2).mono (fun r hr => ?_))
  obtain ⟨pr, hr⟩ := hr
  rcases hr with ⟨_, ⟨_, e1, r1⟩ | ⟨o8, _⟩⟩ | ⟨g, _⟩
  · refine Or.inr ⟨1, tkE B L p, e1, bud 1 1 (RS.tkne hg), ?_⟩
    refine h r.2 C (P ++ [(32, 0)]) Q (hc.mk' pr r1) (low_app (by decide)) (fun _ => ⟨by omega, P, rfl⟩) (fun N' Y R Y' pf c hR hw hD => ?_)
    refine rn_sum c.1.2.2.2.1 ((behindSum_so (tst := tst) c.1 hR (low_app (by decide)) (fun _ => ⟨by omega, P, rfl⟩)).mono (fun r2 hr2 => ?_))
    obtain ⟨pr2, hr2⟩ := hr2
    rcases hr2 with ⟨op', R1, R2, o1, _⟩ | ⟨_, hr2⟩
    · exact absurd o1 (hno op')
    · have hin : innP (P ++ [(32, 0)]) = 32 := innP_br P 32 0 (by decide)
      rcases hr2 with ⟨_, ⟨_, e3, P', hP', r3⟩ | ⟨z, _⟩⟩ | ⟨z, _⟩ | ⟨z, _⟩
      · have : P' = P := (List.append_inj_left' hP' rfl).symm
        subst this
        have hw : flushP (C ++ Y) R = C ++ Y' := hw
        rw [hw, Nat.add_sub_cancel] at r3
        exact Or.inr ⟨3, tkE B L p2, e3, bud 3 3 (RS.tkne hg2), hk r2.2 Y' ((pr.tr pf).tr pr2) (c.mk' pr2 r3) hD⟩
      · exact absurd hg2 z
      · rw [hin] at z; exact absurd z (by decide)
      · exact absurd hin z
  · omega
  · exact absurd hg g
theorem part_open8 {B : Nat → Nat} {L u o p lv od : Nat} {tst : Int32} (hg : isG B L p 91) (ho : od = 8) : FPart B L u o tst p lv od (tkS B L p) := by
  intro N C P Q hc hk
  refine rn_part hc.1.2.2.2.1 ((rpart_so hc.1 hc.2.1 hc.2.2.1 hc.2.2.2).mono (fun r hr => ?_))
  obtain ⟨pr, hr⟩ := hr
  rcases hr with ⟨_, ⟨z, _, _⟩ | ⟨_, b⟩⟩ | ⟨g, _⟩
  · omega
  · exact Or.inl ⟨_, b, hk.tr pr⟩
  · exact absurd hg g
theorem part_openF {B : Nat → Nat} {L u o p lv od pf : Nat} {tst : Int32} (hg : isG B L p 91) (ho : od < 8) (h : FSum B L u o tst (tkE B L p) lv (od + 1) pf) : FPart B L u o tst p lv od pf := by
  intro N C P Q hc hk
  refine rn_part hc.1.2.2.2.1 ((rpart_so hc.1 hc.2.1 hc.2.2.1 hc.2.2.2).mono (fun r hr => ?_))
  obtain ⟨pr, hr⟩ := hr
  rcases hr with ⟨_, ⟨_, e1, r1⟩ | ⟨o8, _⟩⟩ | ⟨g, _⟩
  · exact Or.inr ⟨1, tkE B L p, e1, bud 1 1 (RS.tkne hg), h r.2 C (P ++ [(32, 0)]) Q (hc.mk' pr r1) (low_app (by decide)) (fun _ => ⟨by omega, P, rfl⟩) (hk.tr pr)⟩
  · omega
  · exact absurd hg g
theorem part_openB {B : Nat → Nat} {L u o p lv od p2 lv2 d : Nat} {tst : Int32} {f : Den} (hg : isG B L p 91) (ho : od < 8) (h : SSum B L u o tst (tkE B L p) lv (od + 1) p2 lv2 d f) (hno : ∀ op, ¬ OpG B L p2 op) (hg2 : ¬ isG B L p2 93) : FPart B L u o tst p lv od (tkS B L p2) := by
  intro N C P Q hc hk
  refine rn_part hc.1.2.2.2.1 ((rpart_so hc.1 hc.2.1 hc.2.2.1 hc.2.2.2).mono (fun r hr => ?_))
  obtain ⟨pr, hr⟩ := hr
  rcases hr with ⟨_, ⟨_, e1, r1⟩ | ⟨o8, _⟩⟩ | ⟨g, _⟩
  · refine Or.inr ⟨1, tkE B L p, e1, bud 1 1 (RS.tkne hg), ?_⟩
    refine h r.2 C (P ++ [(32, 0)]) Q (hc.mk' pr r1) (low_app (by decide)) (fun _ => ⟨by omega, P, rfl⟩) (fun N' Y R Y' pf c hR hw hD => ?_)
    refine rn_sum c.1.2.2.2.1 ((behindSum_so (tst := tst) c.1 hR (low_app (by decide)) (fun _ => ⟨by omega, P, rfl⟩)).mono (fun r2 hr2 => ?_))
    obtain ⟨pr2, hr2⟩ := hr2
    rcases hr2 with ⟨op', R1, R2, o1, _⟩ | ⟨_, hr2⟩
    · exact absurd o1 (hno op')
    · have hin : innP (P ++ [(32, 0)]) = 32 := innP_br P 32 0 (by decide)
      rcases hr2 with ⟨_, ⟨z, _⟩ | ⟨_, b⟩⟩ | ⟨z, _⟩ | ⟨z, _⟩
      · exact absurd z hg2
      · exact Or.inl ⟨_, b, hk.tr ((pr.tr pf).tr pr2)⟩
      · rw [hin] at z; exact absurd z (by decide)
      · exact absurd hin z
  · omega
  · exact absurd hg g
