/-! ===== the best play to the end, as a function ===== -/
def bstep (f : Nat → Int) (o : Option (Int × Nat)) (c : Nat) : Option (Int × Nat) := match o with
  | none => some (f c, c)
  | some mx => if mx.1 < f c then some (f c, c) else some mx
def bst (f : Nat → Int) (l : List Nat) : Option (Int × Nat) := l.foldl (bstep f) none
theorem bst_app {f : Nat → Int} {l : List Nat} {c : Nat} : bst f (l ++ [c]) = bstep f (bst f l) c := by
  unfold bst
  rw [List.foldl_append]; rfl
theorem bstep_some {f : Nat → Int} {o : Option (Int × Nat)} {c : Nat} : ∃ mx, bstep f o c = some mx := by
  unfold bstep
  cases o with
  | none => exact ⟨_, rfl⟩
  | some mx =>
    by_cases z : mx.1 < f c
    · exact ⟨_, if_pos z⟩
    · exact ⟨_, if_neg z⟩
theorem list_rev {P : List Nat → Prop} (h0 : P []) (h1 : ∀ l c, P l → P (l ++ [c])) : ∀ l, P l := by
  have : ∀ n (l : List Nat), l.length = n → P l := by
    intro n
    induction n with
    | zero => intro l hl; rw [List.length_eq_zero_iff.mp hl]; exact h0
    | succ n ih =>
      intro l hl
      have hne : l ≠ [] := fun q => by rw [q] at hl; cases hl
      rw [← List.dropLast_concat_getLast hne]
      refine h1 _ _ (ih _ ?_)
      rw [List.length_dropLast, hl]; rfl
  exact fun l => this _ l rfl
theorem bst_mem {f : Nat → Int} : ∀ l, (bst f l = none → l = []) ∧ ∀ mx, bst f l = some mx → mx.2 ∈ l ∧ mx.1 = f mx.2 := by
  refine list_rev ⟨fun _ => rfl, fun mx h => by cases h⟩ (fun l c ih => ?_)
  rw [bst_app]
  refine ⟨fun h => ?_, fun mx h => ?_⟩
  · obtain ⟨mx, e⟩ := bstep_some (f := f) (o := bst f l) (c := c)
    rw [e] at h; cases h
  · cases ho : bst f l with
    | none =>
      rw [ho] at h
      have h : some (f c, c) = some mx := h
      have := Option.some.inj h
      subst this
      exact ⟨List.mem_append.mpr (Or.inr (List.mem_singleton.mpr rfl)), rfl⟩
    | some m0 =>
      rw [ho] at h
      have h : (if m0.1 < f c then some (f c, c) else some m0) = some mx := h
      by_cases z : m0.1 < f c
      · rw [if_pos z] at h
        have := Option.some.inj h
        subst this
        exact ⟨List.mem_append.mpr (Or.inr (List.mem_singleton.mpr rfl)), rfl⟩
      · rw [if_neg z] at h
        have := Option.some.inj h
        subst this
        obtain ⟨a, b⟩ := ih.2 m0 ho
        exact ⟨List.mem_append.mpr (Or.inl a), b⟩
section PL
variable (I : Nat → CI) (n : Nat) (deal mood : Int32)
def plL (r : Nat → Int32) : List Nat := cs (canP (vOf I n deal mood) (bOf I n deal mood) r (r 14))
def plN (r : Nat → Int32) (c : Nat) : Int32 × (Nat → Int32) := ptP I n deal mood r c (ix (r 13)) (ix (r 14))
def bv : Nat → (Nat → Int32) → Int
  | 0, _ => 0
  | k + 1, r => if r 14 = -1 then 0 else (match bst (fun c => (plN I n deal mood r c).1.toInt + (if (plN I n deal mood r c).2 14 = r 14 then bv k (plN I n deal mood r c).2 else - bv k (plN I n deal mood r c).2)) (plL I n deal mood r) with
    | none => 0
    | some mx => mx.1)
def ah (k : Nat) (r : Nat → Int32) (c : Nat) : Int := (plN I n deal mood r c).1.toInt + (if (plN I n deal mood r c).2 14 = r 14 then bv I n deal mood k (plN I n deal mood r c).2 else - bv I n deal mood k (plN I n deal mood r c).2)
end PL
def GO (r : Nat → Int32) : Prop := TV r ∧ r 9 = 2
def unp (r : Nat → Int32) : Nat := (cs (fun c => (decide (r (18 + c) = 0) || decide (r (18 + c) = 1)) && decide (r (70 + c) = 0))).length
section PL2
variable {I : Nat → CI} {n : Nat} {deal mood : Int32} {r : Nat → Int32}
theorem bv_s {k : Nat} : bv I n deal mood (k + 1) r = if r 14 = -1 then 0 else (match bst (ah I n deal mood k r) (plL I n deal mood r) with
    | none => 0
    | some mx => mx.1) := rfl
theorem GO.tn (h : GO r) (h14 : r 14 ≠ -1) : ∃ p, p < 2 ∧ r 14 = Int32.ofNat p ∧ ix (r 14) = p := by
  rcases h.1.2.2.2.2.2.2.1 with z | z | z
  · exact absurd z h14
  · exact ⟨0, by decide, z, by rw [z]; rfl⟩
  · exact ⟨1, by decide, z, by rw [z]; rfl⟩
theorem GO.pt (h : GO r) (h14 : r 14 ≠ -1) {c : Nat} (hc : c ∈ plL I n deal mood r) : PtH (vOf I n deal mood) (bOf I n deal mood) r c (ix (r 13)) (ix (r 14)) := by
  obtain ⟨p, p1, p2, p3⟩ := h.tn h14
  obtain ⟨m, m1, m2, _⟩ := h.1.2.2.2.2.2.1
  obtain ⟨c1, c2⟩ := cs_mem.mp hc
  have e : ix (r 13) = m := by rw [m2, nn_ix (by omega)]
  refine ⟨c1, by omega, h.2, by rw [p3]; exact p2, by rw [e]; exact m2, by omega, ?_⟩
  rw [p3, ← p2]; exact c2
theorem canP_cg {V : Nat → Int32} {Bd : Nat → Bool} {r r' : Nat → Int32} {p : Int32} (e : ∀ k, 18 ≤ k → k < 122 → r' k = r k) (e12 : r' 12 = r 12) : cs (canP V Bd r' p) = cs (canP V Bd r p) := cs_cg (fun c hc => by
  unfold canP
  rw [e (18 + c) (by omega) (by omega), e (70 + c) (by omega) (by omega), e12])
theorem ptB_next {V : Nat → Int32} {Bd : Nat → Bool} {r : Nat → Int32} {p : Nat} {y : Int32} (hp : p < 2) : (pgP (ptB V Bd r p) p y) 14 = -1 ∨ cs (canP V Bd (pgP (ptB V Bd r p) p y) ((pgP (ptB V Bd r p) p y) 14)) ≠ [] := by
  have e14 : (pgP (ptB V Bd r p) p y) 14 = tnP V Bd r (Int32.ofNat (1 - p)) (Int32.ofNat p) := by
    rw [pgP_o hp (by decide) (by decide)]; exact ru_e
  have ec : ∀ q, cs (canP V Bd (pgP (ptB V Bd r p) p y) q) = cs (canP V Bd r q) := fun q => canP_cg (fun k a b => by rw [pgP_o hp (by omega) (by omega), ptB_o (by omega)]) (by rw [pgP_o hp (by decide) (by decide), ptB_o (by decide)])
  rw [ec, e14]
  unfold tnP
  by_cases z : cs (canP V Bd r (Int32.ofNat (1 - p))) = []
  · rw [if_pos z]
    by_cases w : cs (canP V Bd r (Int32.ofNat p)) = []
    · rw [if_pos w]; exact Or.inl rfl
    · rw [if_neg w]; exact Or.inr w
  · rw [if_neg z]; exact Or.inr z
theorem GO.next (h : GO r) (h14 : r 14 ≠ -1) {c : Nat} (hc : c ∈ plL I n deal mood r) : GO (plN I n deal mood r c).2 ∧ (0 ≤ (plN I n deal mood r c).1.toInt ∧ (plN I n deal mood r c).1.toInt ≤ 6000) ∧ (∀ k, k < 9 ∨ 130 ≤ k → (plN I n deal mood r c).2 k = r k) ∧ (∀ k, 18 ≤ k → k < 70 → (plN I n deal mood r c).2 k = r k) ∧ (∀ d, d < 52 → (plN I n deal mood r c).2 (70 + d) = if d = c then 1 else r (70 + d)) ∧ ((plN I n deal mood r c).2 14 = -1 ∨ plL I n deal mood (plN I n deal mood r c).2 ≠ []) := by
  have hp := h.pt h14 hc
  obtain ⟨v1, v2⟩ := h.1.vP hp
  have rg := ptP_rg (I := I) (n := n) (c := c) (m := ix (r 13)) (p := ix (r 14)) (deal := deal) (mood := mood) (r := r) v2
  have out := fun k hk => ptP_out (I := I) (n := n) (k := k) (deal := deal) (mood := mood) (r := r) hp.1 v2 hp.2.1 hk
  obtain ⟨c52, p2, h9, _⟩ := hp
  unfold plL plN
  generalize ix (r 13) = m at *
  generalize ix (r 14) = p at *
  have mid : ∀ k, (k = 9 ∨ (18 ≤ k ∧ k < 122)) → (ptP I n deal mood r c m p).2 k = ptA (vOf I n deal mood) r c m k := fun k hk => by
    unfold ptP
    split
    · show pgP _ p _ k = _
      rw [pgP_o p2 (by omega) (by omega), ptB_o (by omega), ptC_o (by omega) (by omega), ptB_o (by omega)]
    · show pgP _ p _ k = _
      rw [pgP_o p2 (by omega) (by omega), ptB_o (by omega)]
  refine ⟨⟨v1, ?_⟩, rg, out, fun k a b => ?_, fun d hd => ?_, ?_⟩
  · rw [mid 9 (Or.inl rfl), ptA_o (by omega) (by omega) (by omega) (by omega) (by omega)]; exact h9
  · rw [mid k (Or.inr ⟨a, by omega⟩), ptA_o (by omega) (by omega) (by omega) (by omega) (by omega)]
  · rw [mid (70 + d) (Or.inr ⟨by omega, by omega⟩)]
    by_cases z : d = c
    · rw [if_pos z, z]; unfold ptA; rw [ru_n (by omega), ru_n (by omega), ru_n (by omega), ru_n (by omega), ru_e]
    · rw [if_neg z, ptA_o (by omega) (by omega) (by omega) (by omega) (by omega)]
  · unfold ptP
    split
    · exact ptB_next p2
    · exact ptB_next p2
theorem GO.four (h : GO r) (h14 : r 14 ≠ -1) : (plL I n deal mood r).length ≤ 4 := by
  obtain ⟨p, p1, p2, p3⟩ := h.tn h14
  obtain ⟨n0, n1, _⟩ := h.1.2.2.2.2.2.2.2.2.2.2.2.2.2.2.2.2.2.2 (Or.inl h.2)
  have hs : (plL I n deal mood r).length ≤ (cs (fun c => decide (r (18 + c) = Int32.ofNat p))).length := cs_sub (fun c _ q => by
    unfold canP at q
    simp only [Bool.and_eq_true] at q
    rw [← p2]; exact q.1.1.1)
  obtain rfl | rfl : p = 0 ∨ p = 1 := by omega
  · exact Nat.le_trans hs (Nat.le_of_eq n0)
  · exact Nat.le_trans hs (Nat.le_of_eq n1)
theorem GO.unp8 (h : GO r) : unp r ≤ 8 := by
  obtain ⟨n0, n1, _⟩ := h.1.2.2.2.2.2.2.2.2.2.2.2.2.2.2.2.2.2.2 (Or.inl h.2)
  have h1 : unp r ≤ (cs (fun d => decide (r (18 + d) = 0) || decide (r (18 + d) = 1))).length := cs_sub (fun c _ q => by
    rw [Bool.and_eq_true] at q; exact q.1)
  have h2 := cs_or (P := fun d => decide (r (18 + d) = 0)) (Q := fun d => decide (r (18 + d) = 1))
  omega
theorem unp_next (h : GO r) (h14 : r 14 ≠ -1) {c : Nat} (hc : c ∈ plL I n deal mood r) : unp (plN I n deal mood r c).2 + 1 = unp r := by
  obtain ⟨_, _, _, e18, e70, _⟩ := h.next h14 hc
  obtain ⟨p, p1, p2, p3⟩ := h.tn h14
  obtain ⟨c52, hcan⟩ := cs_mem.mp hc
  unfold canP at hcan
  simp only [Bool.and_eq_true, decide_eq_true_eq, Bool.not_eq_true'] at hcan
  obtain ⟨⟨⟨x1, x2⟩, x3⟩, x4⟩ := hcan
  unfold unp
  rw [← cs_del (P := fun c => (decide (r (18 + c) = 0) || decide (r (18 + c) = 1)) && decide (r (70 + c) = 0)) (x := c) (by
    rw [x1, x2, p2]
    obtain rfl | rfl : p = 0 ∨ p = 1 := by omega
    all_goals decide) c52]
  congr 2
  refine cs_cg (fun d hd => ?_)
  rw [e18 (18 + d) (by omega) (by omega), e70 d hd]
  by_cases z : d = c
  · rw [if_pos z, decide_eq_true z]; simp
  · rw [if_neg z, decide_eq_false z]; simp
theorem unp_nil (h : GO r) (h14 : r 14 ≠ -1) (hu : unp r = 0) : plL I n deal mood r = [] := by
  cases hl : plL I n deal mood r with
  | nil => rfl
  | cons c l =>
    have := unp_next (I := I) (n := n) (deal := deal) (mood := mood) h h14 (c := c) (by rw [hl]; exact List.mem_cons_self)
    omega
theorem bv_rg : ∀ (k : Nat) (r : Nat → Int32), GO r → -(6000 * (k : Int)) ≤ bv I n deal mood k r ∧ bv I n deal mood k r ≤ 6000 * (k : Int)
  | 0, _, _ => by
    show -(6000 * ((0 : Nat) : Int)) ≤ 0 ∧ (0 : Int) ≤ 6000 * ((0 : Nat) : Int)
    omega
  | k + 1, r, h => by
    rw [bv_s]
    by_cases z : r 14 = -1
    · rw [if_pos z]; omega
    · rw [if_neg z]
      cases hb : bst (ah I n deal mood k r) (plL I n deal mood r) with
      | none => show -(6000 * ((k + 1 : Nat) : Int)) ≤ 0 ∧ (0 : Int) ≤ 6000 * ((k + 1 : Nat) : Int); omega
      | some mx =>
        obtain ⟨m1, m2⟩ := (bst_mem (f := ah I n deal mood k r) (plL I n deal mood r)).2 mx hb
        show -(6000 * ((k + 1 : Nat) : Int)) ≤ mx.1 ∧ mx.1 ≤ 6000 * ((k + 1 : Nat) : Int)
        obtain ⟨g1, g2, _⟩ := h.next z m1
        have ih := bv_rg k _ g1
        rw [m2]
        unfold ah
        split <;> omega
theorem ah_rg {k c : Nat} (h : GO r) (h14 : r 14 ≠ -1) (hc : c ∈ plL I n deal mood r) : -(6000 * ((k + 1 : Nat) : Int)) ≤ ah I n deal mood k r c ∧ ah I n deal mood k r c ≤ 6000 * ((k + 1 : Nat) : Int) := by
  obtain ⟨g1, g2, _⟩ := h.next h14 hc
  have ih := bv_rg (I := I) (n := n) (deal := deal) (mood := mood) k _ g1
  unfold ah
  split <;> omega
end PL2
