/-! ===== threes of cards: pairs, runs, flushes, nobs ===== -/
def i1 (p : Prop) [Decidable p] : Nat := if p then 1 else 0
theorem prs_5f {P : Nat → Nat} {x y a b s : Nat} : prs P (fun k => f5 x y a b s k / 4) 5 = (if y / 4 = x / 4 then P (x / 4) else 0) + (((if a / 4 = x / 4 then P (x / 4) else 0) + (if a / 4 = y / 4 then P (y / 4) else 0)) + ((if b / 4 = x / 4 then P (x / 4) else 0) + (if b / 4 = y / 4 then P (y / 4) else 0)) + ((if s / 4 = x / 4 then P (x / 4) else 0) + (if s / 4 = y / 4 then P (y / 4) else 0))) + ((if a / 4 = b / 4 then P (a / 4) else 0) + (if a / 4 = s / 4 then P (a / 4) else 0) + (if b / 4 = s / 4 then P (b / 4) else 0)) := by
  have e : ∀ i j : Nat, (if i = j then P i else 0) = if i = j then P j else 0 := fun i j => by
    by_cases z : i = j
    · rw [if_pos z, if_pos z, z]
    · rw [if_neg z, if_neg z]
  have e' : ∀ i j : Nat, (if i = j then P i else 0) = if j = i then P j else 0 := fun i j => by
    by_cases z : i = j
    · rw [if_pos z, if_pos z.symm, z]
    · rw [if_neg z, if_neg (fun q => z q.symm)]
  show 0 + 0 + (0 + (if y / 4 = x / 4 then P (y / 4) else 0)) + (0 + (if a / 4 = x / 4 then P (a / 4) else 0) + (if a / 4 = y / 4 then P (a / 4) else 0)) + (0 + (if b / 4 = x / 4 then P (b / 4) else 0) + (if b / 4 = y / 4 then P (b / 4) else 0) + (if b / 4 = a / 4 then P (b / 4) else 0)) + (0 + (if s / 4 = x / 4 then P (s / 4) else 0) + (if s / 4 = y / 4 then P (s / 4) else 0) + (if s / 4 = a / 4 then P (s / 4) else 0) + (if s / 4 = b / 4 then P (s / 4) else 0)) = _
  rw [e (y / 4) (x / 4), e (a / 4) (x / 4), e (a / 4) (y / 4), e (b / 4) (x / 4), e (b / 4) (y / 4), e' (b / 4) (a / 4), e (s / 4) (x / 4), e (s / 4) (y / 4), e' (s / 4) (a / 4), e' (s / 4) (b / 4)]
  omega
def come (w : Nat → Nat) (r n : Nat) : Nat := g1 w (fun a => if a / 4 = r then 1 else 0) n
def mine (x y r : Nat) : Nat := (if x / 4 = r then 1 else 0) + (if y / 4 = r then 1 else 0)
theorem come_g1 {w : Nat → Nat} {p r n : Nat} : g1 w (fun a => if a / 4 = r then p else 0) n = p * come w r n := by
  unfold come
  rw [← g1_mul]
  exact g1_cg (fun a _ => by
    by_cases z : a / 4 = r
    · rw [if_pos z, if_pos z, Nat.mul_one]
    · rw [if_neg z, if_neg z, Nat.mul_zero])
theorem pairs_two {w P : Nat → Nat} (h : one01 w) : ∀ n, n ≤ 52 → g2 w (fun a b => if a / 4 = b / 4 then P (a / 4) else 0) n = sm (fun r => c2 (come w r n) * P r) 13
  | 0, _ => (sm_0 (fun _ _ => by unfold come; show c2 0 * _ = 0; rw [show c2 0 = 0 from rfl, Nat.zero_mul])).symm
  | n + 1, hn => by
    rw [g2_s, pairs_two h n (by omega)]
    have e : g1 w (fun b => if n / 4 = b / 4 then P (n / 4) else 0) n = P (n / 4) * come w (n / 4) n := by
      rw [← come_g1]
      exact g1_cg (fun b _ => by
        by_cases z : n / 4 = b / 4
        · rw [if_pos z, if_pos z.symm]
        · rw [if_neg z, if_neg (fun q => z q.symm)])
    rw [e]
    have e2 : sm (fun r => c2 (come w r (n + 1)) * P r) 13 = sm (fun r => c2 (come w r n) * P r) 13 + sm (fun r => if r = n / 4 then w n * (P (n / 4) * come w (n / 4) n) else 0) 13 := by
      rw [← sm_plus]
      refine sm_cg (fun r _ => ?_)
      have ec : come w r (n + 1) = come w r n + w n * (if n / 4 = r then 1 else 0) := g1_s
      by_cases z : r = n / 4
      · subst z
        rw [if_pos rfl, ec, if_pos rfl]
        rcases h n with y | y <;> rw [y]
        · simp
        · rw [show come w (n / 4) n + 1 * 1 = come w (n / 4) n + 1 by omega, c2_s]; grind
      · rw [if_neg z, ec, if_neg (fun q => z q.symm)]; simp
    rw [e2, sm_pt (by omega)]
theorem mine_sm {x y : Nat} {g : Nat → Nat} (hx : x < 52) (hy : y < 52) : sm (fun r => mine x y r * g r) 13 = g (x / 4) + g (y / 4) := by
  unfold mine
  have e : sm (fun r => ((if x / 4 = r then 1 else 0) + (if y / 4 = r then 1 else 0)) * g r) 13 = sm (fun r => if r = x / 4 then g (x / 4) else 0) 13 + sm (fun r => if r = y / 4 then g (y / 4) else 0) 13 := by
    rw [← sm_plus]
    refine sm_cg (fun r _ => ?_)
    by_cases a : r = x / 4
    · by_cases b : r = y / 4
      · rw [if_pos a.symm, if_pos b.symm, if_pos a, if_pos b, ← a, ← b]; omega
      · rw [if_pos a.symm, if_neg (fun q => b q.symm), if_pos a, if_neg b, ← a]; omega
    · by_cases b : r = y / 4
      · rw [if_neg (fun q => a q.symm), if_pos b.symm, if_neg a, if_pos b, ← b]; omega
      · rw [if_neg (fun q => a q.symm), if_neg (fun q => b q.symm), if_neg a, if_neg b]; omega
  rw [e, sm_pt (by omega), sm_pt (by omega)]
theorem mine_c2 {x y : Nat} {P : Nat → Nat} (hx : x < 52) : sm (fun r => c2 (mine x y r) * P r) 13 = if y / 4 = x / 4 then P (x / 4) else 0 := by
  by_cases z : y / 4 = x / 4
  · rw [if_pos z, ← sm_pt (n := 13) (x := x / 4) (v := P (x / 4)) (by omega)]
    refine sm_cg (fun r _ => ?_)
    unfold mine
    rw [z]
    by_cases a : r = x / 4
    · rw [if_pos a.symm, if_pos a, ← a]; show (0 + 0 + 1) * _ = _; omega
    · rw [if_neg (fun q => a q.symm), if_neg a]; show 0 * _ = _; omega
  · rw [if_neg z]
    refine sm_0 (fun r _ => ?_)
    unfold mine
    by_cases a : x / 4 = r
    · rw [if_pos a, if_neg (fun q => z (q.trans a.symm))]; show (0 + 0) * _ = _; omega
    · rw [if_neg a]
      by_cases b : y / 4 = r
      · rw [if_pos b]; show (0 + 0) * _ = _; omega
      · rw [if_neg b]; show 0 * _ = _; omega
def pw (w P : Nat → Nat) (x y N : Nat) : Nat := sm (fun r => (c2 (mine x y r) * c3 N + mine x y r * come w r 52 * c2 (N - 1) + c2 (come w r 52) * (N - 2)) * P r) 13
theorem prs_g3 {w P : Nat → Nat} {x y : Nat} (h : one01 w) (hN : 2 ≤ sm w 52) (hx : x < 52) (hy : y < 52) : g3 w (fun a b c => prs P (fun k => f5 x y a b c k / 4) 5) 52 = pw w P x y (sm w 52) := by
  rw [g3_cg (fun a b c _ _ _ => prs_5f), g3_add, g3_add, const_N h, each_N (g := fun a => (if a / 4 = x / 4 then P (x / 4) else 0) + (if a / 4 = y / 4 then P (y / 4) else 0)) h hN, pair_N (k := fun a b => if a / 4 = b / 4 then P (a / 4) else 0) h hN, g1_add, come_g1, come_g1, pairs_two h 52 (by omega)]
  unfold pw
  generalize sm w 52 = N
  rw [← mine_c2 (y := y) hx, ← mine_sm (x := x) (y := y) (g := fun r => P r * come w r 52) hx hy, Nat.mul_comm _ (c3 N), Nat.mul_comm _ (c2 (N - 1)), Nat.mul_comm _ (N - 2), ← sm_mul, ← sm_mul, ← sm_mul, ← sm_plus, ← sm_plus]
  exact sm_cg (fun r _ => by grind)
/-! runs -/
def rkH (R : Nat → Nat) (x y i j k : Nat) : Nat := rsn R (fun r => mine x y r + (if i = r then 1 else 0) + (if j = r then 1 else 0) + (if k = r then 1 else 0)) 14
theorem rns_H {R : Nat → Nat} {x y a b c : Nat} : rns R (f5 x y a b c) = rkH R x y (a / 4) (b / 4) (c / 4) := by
  unfold rns rkH
  congr 1
  funext r
  show 0 + (if x / 4 = r then 1 else 0) + (if y / 4 = r then 1 else 0) + (if a / 4 = r then 1 else 0) + (if b / 4 = r then 1 else 0) + (if c / 4 = r then 1 else 0) = _
  unfold mine
  omega
def oft (w : Nat → Nat) (i j k : Nat) : Nat := if i = k then c3 (come w i 52) else if i = j then c2 (come w i 52) * come w k 52 else if j = k then c2 (come w j 52) * come w i 52 else come w i 52 * come w j 52 * come w k 52
def rwS (w R : Nat → Nat) (x y : Nat) : Nat := sm (fun i => sm (fun j => sm (fun k => if i ≤ j ∧ j ≤ k then oft w i j k * rkH R x y i j k else 0) 13) 13) 13
theorem rkH_sw {R : Nat → Nat} {x y i j k : Nat} : rkH R x y k j i = rkH R x y i j k := by
  unfold rkH
  congr 1
  funext r
  omega
def ir (r a : Nat) : Nat := if a / 4 = r then 1 else 0
theorem g3_cnt {w : Nat → Nat} {i j k : Nat} (h : one01 w) : g3 w (fun a b c => ir k a * ir j b * ir i c) 52 = if i ≤ j ∧ j ≤ k then oft w i j k else 0 := by
  -- sums within blocks
  have lowB : ∀ (g : Nat → Nat) (r a : Nat), r < a / 4 → a < 52 → sm (fun b => w b * (ir r b * g b)) a = sm (fun b => w b * (ir r b * g b)) 52 := fun g r a hr ha => by
    obtain ⟨c, hc⟩ : ∃ c, 52 = a + c := ⟨52 - a, by omega⟩
    rw [hc, sm_add, sm_0 (g := fun i => w (a + i) * (ir r (a + i) * g (a + i))) (fun t _ => by
      unfold ir; rw [if_neg (by omega)]; omega)]; omega
  have highB : ∀ (g : Nat → Nat) (r a : Nat), a / 4 < r → sm (fun b => w b * (ir r b * g b)) a = 0 := fun g r a hr => sm_0 (fun b hb => by
    unfold ir; rw [if_neg (by omega)]; omega)
  have one1 : ∀ r n, sm (fun b => w b * (ir r b * 1)) n = come w r n := fun r n => sm_cg (fun b _ => by unfold ir; rw [Nat.mul_one])
  have wr : ∀ r, one01 (fun a => w a * ir r a) := fun r a => by
    unfold ir
    show w a * (if a / 4 = r then 1 else 0) = 0 ∨ w a * (if a / 4 = r then 1 else 0) = 1
    rcases h a with z | z <;> rw [z] <;> by_cases y : a / 4 = r
    · rw [if_pos y]; exact Or.inl rfl
    · rw [if_neg y]; exact Or.inl rfl
    · rw [if_pos y]; exact Or.inr rfl
    · rw [if_neg y]; exact Or.inl rfl
  have cnt1 : ∀ r n, sm (fun a => w a * ir r a) n = come w r n := fun r n => rfl
  -- the innermost
  have in1 : ∀ b r, b / 4 = j → b < 52 → g1 w (fun c => ir r b * 1 * ir i c) b = ir r b * (if i < j then come w i 52 else if i = j then come w i b else 0) := fun b r hb hb2 => by
    rw [show g1 w (fun c => ir r b * 1 * ir i c) b = ir r b * sm (fun c => w c * (ir i c * 1)) b by
      rw [← sm_mul]; exact sm_cg (fun c _ => by grind)]
    by_cases z : i < j
    · rw [if_pos z, lowB (fun _ => 1) i b (by omega) hb2, one1]
    · rw [if_neg z]
      by_cases y : i = j
      · rw [if_pos y, one1]
      · rw [if_neg y, highB (fun _ => 1) i b (by omega)]
  have in2 : ∀ b, g1 w (fun c => ir j b * ir i c) b = ir j b * (if i < j then come w i 52 else if i = j then come w i b else 0) ∨ 52 ≤ b := fun b => by
    by_cases hb2 : b < 52
    · left
      by_cases hb : b / 4 = j
      · have := in1 b j hb hb2
        rw [← this]
        exact g1_cg (fun c _ => by rw [Nat.mul_one])
      · have : ir j b = 0 := if_neg hb
        rw [this, Nat.zero_mul]
        exact (g1_cg (h := fun _ => 0) (fun c _ => Nat.zero_mul _)).trans g1_0
    · right; omega
  -- two of them
  have two : ∀ a, a < 52 → g2 w (fun b c => ir j b * ir i c) a = if j < a / 4 then (if i < j then come w j 52 * come w i 52 else if i = j then c2 (come w i 52) else 0) else if j = a / 4 then (if i < j then come w j a * come w i 52 else if i = j then c2 (come w i a) else 0) else 0 := fun a ha => by
    have e : g2 w (fun b c => ir j b * ir i c) a = sm (fun b => w b * (ir j b * (if i < j then come w i 52 else if i = j then come w i b else 0))) a := sm_cg (fun b hb => by
      rcases in2 b with z | z
      · rw [z]
      · omega)
    have e2 : i = j → ∀ n, sm (fun b => w b * (ir j b * come w i b)) n = c2 (come w i n) := fun hij n => by
      subst hij
      rw [← cnt1, ← g2_one (wr i) n]
      exact sm_cg (fun b _ => by
        show _ = w b * ir i b * sm (fun c => w c * ir i c * 1) b
        rw [sm_cg (g := fun c => w c * ir i c * 1) (h := fun c => w c * ir i c) (fun c _ => Nat.mul_one _), cnt1]; grind)
    rw [e]
    by_cases z : j < a / 4
    · rw [if_pos z, lowB _ j a z ha]
      by_cases y : i < j
      · simp only [if_pos y]
        rw [show sm (fun b => w b * (ir j b * come w i 52)) 52 = come w i 52 * sm (fun b => w b * (ir j b * 1)) 52 by
          rw [← sm_mul]; exact sm_cg (fun b _ => by grind), one1, Nat.mul_comm]
      · simp only [if_neg y]
        by_cases x : i = j
        · simp only [if_pos x]; exact e2 x 52
        · simp only [if_neg x]
          exact sm_0 (fun b _ => by omega)
    · rw [if_neg z]
      by_cases y : j = a / 4
      · rw [if_pos y]
        by_cases y2 : i < j
        · simp only [if_pos y2]
          rw [show sm (fun b => w b * (ir j b * come w i 52)) a = come w i 52 * sm (fun b => w b * (ir j b * 1)) a by
            rw [← sm_mul]; exact sm_cg (fun b _ => by grind), one1, Nat.mul_comm]
        · simp only [if_neg y2]
          by_cases x : i = j
          · simp only [if_pos x]; exact e2 x a
          · simp only [if_neg x]
            exact sm_0 (fun b _ => by omega)
      · rw [if_neg y, highB _ j a (by omega)]
  -- all three
  have e3 : g3 w (fun a b c => ir k a * ir j b * ir i c) 52 = sm (fun a => w a * (ir k a * g2 w (fun b c => ir j b * ir i c) a)) 52 := sm_cg (fun a _ => by
    rw [show g2 w (fun b c => ir k a * ir j b * ir i c) a = ir k a * g2 w (fun b c => ir j b * ir i c) a by
      rw [← g2_mul]; exact g2_cg (fun b c _ _ => Nat.mul_assoc _ _ _)])
  rw [e3]
  have e4 : sm (fun a => w a * (ir k a * g2 w (fun b c => ir j b * ir i c) a)) 52 = sm (fun a => w a * (ir k a * (if j < k then (if i < j then come w j 52 * come w i 52 else if i = j then c2 (come w i 52) else 0) else if j = k then (if i < j then come w j a * come w i 52 else if i = j then c2 (come w i a) else 0) else 0))) 52 := sm_cg (fun a ha => by
    rw [two a ha]
    by_cases z : a / 4 = k
    · rw [z]
    · have : ir k a = 0 := if_neg z
      rw [this, Nat.zero_mul, Nat.zero_mul])
  rw [e4]
  have all : ∀ v, sm (fun a => w a * (ir k a * v)) 52 = come w k 52 * v := fun v => by
    rw [show come w k 52 * v = v * sm (fun a => w a * (ir k a * 1)) 52 by rw [one1, Nat.mul_comm], ← sm_mul]
    exact sm_cg (fun a _ => by grind)
  by_cases z : j < k
  · simp only [if_pos z]
    rw [all]
    by_cases y : i < j
    · rw [if_pos y, if_pos (by omega)]
      unfold oft
      rw [if_neg (by omega), if_neg (by omega), if_neg (by omega)]; grind
    · rw [if_neg y]
      by_cases x : i = j
      · rw [if_pos x, if_pos (by omega)]
        unfold oft
        rw [if_neg (by omega), if_pos x, Nat.mul_comm]
      · rw [if_neg x, if_neg (by omega)]; rfl
  · simp only [if_neg z]
    by_cases y : j = k
    · simp only [if_pos y]
      subst y
      by_cases x : i < j
      · simp only [if_pos x]
        rw [if_pos (by omega)]
        unfold oft
        rw [if_neg (by omega), if_neg (by omega), if_pos rfl, ← cnt1 j, ← g2_one (wr j) 52, Nat.mul_comm]
        show _ = come w i 52 * sm (fun a => w a * ir j a * sm (fun b => w b * ir j b * 1) a) 52
        rw [← sm_mul]
        refine sm_cg (fun a _ => ?_)
        rw [sm_cg (g := fun b => w b * ir j b * 1) (h := fun b => w b * ir j b) (fun _ _ => Nat.mul_one _), cnt1]; grind
      · simp only [if_neg x]
        by_cases v : i = j
        · subst v
          simp only [if_true]
          rw [if_pos (by omega)]
          unfold oft
          rw [if_pos rfl, ← cnt1 i 52, ← g3_one (wr i) 52]
          refine sm_cg (fun a _ => ?_)
          show _ = w a * ir i a * g2 (fun a => w a * ir i a) (fun _ _ => 1) a
          rw [g2_one (wr i), cnt1]; grind
        · simp only [if_neg v]
          rw [if_neg (by omega)]
          exact sm_0 (fun a _ => by omega)
    · simp only [if_neg y]
      rw [if_neg (by omega)]
      exact sm_0 (fun a _ => by omega)
