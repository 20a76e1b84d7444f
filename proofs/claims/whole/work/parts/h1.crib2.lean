/-! ===== threes of cards: what they count, part by part ===== -/
def f5 (x y a b s : Nat) : Nat → Nat := fun k => if k = 0 then x else if k = 1 then y else if k = 2 then a else if k = 3 then b else s
def tt (Y : Nat) (F : Nat → Nat) (v k σ j : Nat) : Nat := if 2 ≤ k + j ∧ v + σ = Y then F (k + j) else 0
def hh (Y : Nat) (F : Nat → Nat) (v k A B S : Nat) : Nat := tt Y F v k 0 0 + (tt Y F v k A 1 + tt Y F v k B 1 + tt Y F v k S 1) + (tt Y F v k (A + B) 2 + tt Y F v k (A + S) 2 + tt Y F v k (B + S) 2) + tt Y F v k (A + B + S) 3
theorem sm_32 {g : Nat → Nat} : sm g 32 = g 0 + g 1 + g 2 + g 3 + g 4 + g 5 + g 6 + g 7 + g 8 + g 9 + g 10 + g 11 + g 12 + g 13 + g 14 + g 15 + g 16 + g 17 + g 18 + g 19 + g 20 + g 21 + g 22 + g 23 + g 24 + g 25 + g 26 + g 27 + g 28 + g 29 + g 30 + g 31 := by
  simp only [sm, Nat.zero_add]
theorem fif_tt {V : Nat → Nat} {Y s k j σ : Nat} {F f : Nat → Nat} {v : Nat} (h1 : szS s 5 = k + j) (h2 : suS V f s 5 = v + σ) : (if 1 < szS s 5 ∧ suS V f s 5 = Y then F (szS s 5) else 0) = tt Y F v k σ j := by
  unfold tt
  rw [h1, h2]
  rfl
theorem fif_hh {V : Nat → Nat} {Y x y a b s : Nat} {F : Nat → Nat} : fif V Y F (f5 x y a b s) 5 32 = hh Y F 0 0 (V a) (V b) (V s) + hh Y F (V x) 1 (V a) (V b) (V s) + hh Y F (V y) 1 (V a) (V b) (V s) + hh Y F (V x + V y) 2 (V a) (V b) (V s) := by
  unfold fif
  rw [sm_32]
  have su : ∀ i, suS V (f5 x y a b s) i 5 = bt i 0 * V x + bt i 1 * V y + bt i 2 * V a + bt i 3 * V b + bt i 4 * V s := fun i => by
    show 0 + bt i 0 * V x + bt i 1 * V y + bt i 2 * V a + bt i 3 * V b + bt i 4 * V s = _
    omega
  have go : ∀ i k j σ v, szS i 5 = k + j → bt i 0 * V x + bt i 1 * V y + bt i 2 * V a + bt i 3 * V b + bt i 4 * V s = v + σ → (if 1 < szS i 5 ∧ suS V (f5 x y a b s) i 5 = Y then F (szS i 5) else 0) = tt Y F v k σ j := fun i k j σ v h1 h2 => fif_tt h1 (by rw [su]; exact h2)
  have tb : ∀ i k e, bt i k = e → bt i k = e := fun _ _ _ h => h
  rw [go 0 0 0 0 0 (by decide) (by simp [bt]), go 1 1 0 0 (V x) (by decide) (by simp [bt]), go 2 1 0 0 (V y) (by decide) (by simp [bt]), go 3 2 0 0 (V x + V y) (by decide) (by simp [bt]), go 4 0 1 (V a) 0 (by decide) (by simp [bt]), go 5 1 1 (V a) (V x) (by decide) (by simp [bt]), go 6 1 1 (V a) (V y) (by decide) (by simp [bt]), go 7 2 1 (V a) (V x + V y) (by decide) (by simp [bt]),
    go 8 0 1 (V b) 0 (by decide) (by simp [bt]), go 9 1 1 (V b) (V x) (by decide) (by simp [bt]), go 10 1 1 (V b) (V y) (by decide) (by simp [bt]), go 11 2 1 (V b) (V x + V y) (by decide) (by simp [bt]), go 12 0 2 (V a + V b) 0 (by decide) (by simp [bt]), go 13 1 2 (V a + V b) (V x) (by decide) (by simp [bt]; omega), go 14 1 2 (V a + V b) (V y) (by decide) (by simp [bt]; omega), go 15 2 2 (V a + V b) (V x + V y) (by decide) (by simp [bt]; omega),
    go 16 0 1 (V s) 0 (by decide) (by simp [bt]), go 17 1 1 (V s) (V x) (by decide) (by simp [bt]), go 18 1 1 (V s) (V y) (by decide) (by simp [bt]), go 19 2 1 (V s) (V x + V y) (by decide) (by simp [bt]), go 20 0 2 (V a + V s) 0 (by decide) (by simp [bt]), go 21 1 2 (V a + V s) (V x) (by decide) (by simp [bt]; omega), go 22 1 2 (V a + V s) (V y) (by decide) (by simp [bt]; omega), go 23 2 2 (V a + V s) (V x + V y) (by decide) (by simp [bt]; omega),
    go 24 0 2 (V b + V s) 0 (by decide) (by simp [bt]), go 25 1 2 (V b + V s) (V x) (by decide) (by simp [bt]; omega), go 26 1 2 (V b + V s) (V y) (by decide) (by simp [bt]; omega), go 27 2 2 (V b + V s) (V x + V y) (by decide) (by simp [bt]; omega), go 28 0 3 (V a + V b + V s) 0 (by decide) (by simp [bt]), go 29 1 3 (V a + V b + V s) (V x) (by decide) (by simp [bt]; omega), go 30 1 3 (V a + V b + V s) (V y) (by decide) (by simp [bt]; omega), go 31 2 3 (V a + V b + V s) (V x + V y) (by decide) (by simp [bt]; omega)]
  unfold hh
  omega
/-- in how many ways j cards are worth m together -/
def wy (V w : Nat → Nat) (j m n : Nat) : Nat := if j = 0 then (if m = 0 then 1 else 0) else if j = 1 then g1 w (fun a => if V a = m then 1 else 0) n else if j = 2 then g2 w (fun a b => if V a + V b = m then 1 else 0) n else g3 w (fun a b c => if V a + V b + V c = m then 1 else 0) n
theorem g1_0 {w : Nat → Nat} {n : Nat} : g1 w (fun _ => 0) n = 0 := sm_0 (fun _ _ => rfl)
theorem g2_0 {w : Nat → Nat} {n : Nat} : g2 w (fun _ _ => 0) n = 0 := sm_0 (fun a _ => by rw [g1_0, Nat.mul_zero])
theorem wy_s {V w : Nat → Nat} {j m n : Nat} (hj : j < 3) : wy V w (j + 1) m (n + 1) = wy V w (j + 1) m n + w n * (if V n ≤ m then wy V w j (m - V n) n else 0) := by
  obtain rfl | rfl | rfl : j = 0 ∨ j = 1 ∨ j = 2 := by omega
  · show g1 w _ (n + 1) = g1 w _ n + _
    rw [g1_s]
    congr 2
    show (if V n = m then 1 else 0) = if V n ≤ m then (if m - V n = 0 then 1 else 0) else 0
    by_cases z : V n ≤ m
    · rw [if_pos z]
      by_cases y : V n = m
      · rw [if_pos y, if_pos (by omega)]
      · rw [if_neg y, if_neg (by omega)]
    · rw [if_neg z, if_neg (by omega)]
  · show g2 w _ (n + 1) = g2 w _ n + _
    rw [g2_s]
    congr 2
    show g1 w (fun b => if V n + V b = m then 1 else 0) n = if V n ≤ m then g1 w (fun b => if V b = m - V n then 1 else 0) n else 0
    by_cases z : V n ≤ m
    · rw [if_pos z]
      exact g1_cg (fun b _ => by
        by_cases y : V n + V b = m
        · rw [if_pos y, if_pos (by omega)]
        · rw [if_neg y, if_neg (by omega)])
    · rw [if_neg z]
      exact (g1_cg (h := fun _ => 0) (fun b _ => if_neg (by omega))).trans g1_0
  · show g3 w _ (n + 1) = g3 w _ n + _
    rw [g3_s]
    congr 2
    show g2 w (fun b c => if V n + V b + V c = m then 1 else 0) n = if V n ≤ m then g2 w (fun b c => if V b + V c = m - V n then 1 else 0) n else 0
    by_cases z : V n ≤ m
    · rw [if_pos z]
      exact g2_cg (fun b c _ _ => by
        by_cases y : V n + V b + V c = m
        · rw [if_pos y, if_pos (by omega)]
        · rw [if_neg y, if_neg (by omega)])
    · rw [if_neg z]
      exact (g2_cg (h := fun _ _ => 0) (fun b c _ _ => if_neg (by omega))).trans g2_0
/-- how the class reckons them -/
def cw (V w : Nat → Nat) (F : Nat → Nat) (N k m : Nat) : Nat := (if 2 ≤ k then wy V w 0 m 52 * c3 N * F k else 0) + (if 1 ≤ k then wy V w 1 m 52 * c2 (N - 1) * F (k + 1) else 0) + wy V w 2 m 52 * (N - 2) * F (k + 2) + wy V w 3 m 52 * F (k + 3)
theorem each_N {w g : Nat → Nat} {n : Nat} (h : one01 w) (hN : 2 ≤ sm w n) : g3 w (fun a b c => g a + g b + g c) n = g1 w g n * c2 (sm w n - 1) := by
  have e := g3_each (g := g) h n
  obtain ⟨m, hm⟩ : ∃ m, sm w n = m + 1 := ⟨sm w n - 1, by omega⟩
  rw [hm, c2_s] at e
  rw [hm, Nat.add_sub_cancel]
  grind
theorem pair_N {w : Nat → Nat} {k : Nat → Nat → Nat} {n : Nat} (h : one01 w) (hN : 2 ≤ sm w n) : g3 w (fun a b c => k a b + k a c + k b c) n = g2 w k n * (sm w n - 2) := by
  have e := g3_pair (k := k) h n
  obtain ⟨m, hm⟩ : ∃ m, sm w n = m + 2 := ⟨sm w n - 2, by omega⟩
  rw [hm] at e
  rw [hm, Nat.add_sub_cancel]
  grind
theorem const_N {w : Nat → Nat} {n k : Nat} (h : one01 w) : g3 w (fun _ _ _ => k) n = k * c3 (sm w n) := by
  rw [← g3_one h, ← g3_mul]
  exact g3_cg (fun _ _ _ _ _ _ => (Nat.mul_one _).symm)
theorem hh_cw {V w : Nat → Nat} {Y v k : Nat} {F : Nat → Nat} (h : one01 w) (hN : 2 ≤ sm w 52) : g3 w (fun a b c => hh Y F v k (V a) (V b) (V c)) 52 = if v ≤ Y then cw V w F (sm w 52) k (Y - v) else 0 := by
  unfold hh
  rw [g3_add, g3_add, g3_add, const_N h, each_N (g := fun a => tt Y F v k (V a) 1) h hN, pair_N (k := fun a b => tt Y F v k (V a + V b) 2) h hN]
  by_cases z : v ≤ Y
  · rw [if_pos z]
    unfold cw
    have e0 : tt Y F v k 0 0 * c3 (sm w 52) = if 2 ≤ k then wy V w 0 (Y - v) 52 * c3 (sm w 52) * F k else 0 := by
      unfold tt
      show (if 2 ≤ k + 0 ∧ v + 0 = Y then F (k + 0) else 0) * _ = if 2 ≤ k then (if Y - v = 0 then 1 else 0) * c3 (sm w 52) * F k else 0
      by_cases a : 2 ≤ k
      · rw [if_pos a]
        by_cases b : v = Y
        · rw [if_pos ⟨by omega, by omega⟩, if_pos (by omega)]; show F k * _ = _; grind
        · rw [if_neg (by omega), if_neg (by omega)]; omega
      · rw [if_neg a, if_neg (by omega)]; omega
    have e1 : g1 w (fun a => tt Y F v k (V a) 1) 52 = if 1 ≤ k then wy V w 1 (Y - v) 52 * F (k + 1) else 0 := by
      show _ = if 1 ≤ k then g1 w (fun a => if V a = Y - v then 1 else 0) 52 * F (k + 1) else 0
      by_cases a : 1 ≤ k
      · rw [if_pos a, Nat.mul_comm, ← g1_mul]
        refine g1_cg (fun c _ => ?_)
        unfold tt
        by_cases b : V c = Y - v
        · rw [if_pos ⟨by omega, by omega⟩, if_pos b]; omega
        · rw [if_neg (by omega), if_neg b]; rfl
      · rw [if_neg a]
        exact (g1_cg (h := fun _ => 0) (fun c _ => if_neg (by omega))).trans g1_0
    have e2 : g2 w (fun a b => tt Y F v k (V a + V b) 2) 52 = wy V w 2 (Y - v) 52 * F (k + 2) := by
      show _ = g2 w (fun a b => if V a + V b = Y - v then 1 else 0) 52 * F (k + 2)
      rw [Nat.mul_comm, ← g2_mul]
      refine g2_cg (fun c d _ _ => ?_)
      unfold tt
      by_cases b : V c + V d = Y - v
      · rw [if_pos ⟨by omega, by omega⟩, if_pos b]; omega
      · rw [if_neg (by omega), if_neg b]; rfl
    have e3 : g3 w (fun a b c => tt Y F v k (V a + V b + V c) 3) 52 = wy V w 3 (Y - v) 52 * F (k + 3) := by
      show _ = g3 w (fun a b c => if V a + V b + V c = Y - v then 1 else 0) 52 * F (k + 3)
      rw [Nat.mul_comm, ← g3_mul]
      refine g3_cg (fun c d e _ _ _ => ?_)
      unfold tt
      by_cases b : V c + V d + V e = Y - v
      · rw [if_pos ⟨by omega, by omega⟩, if_pos b]; omega
      · rw [if_neg (by omega), if_neg b]; rfl
    rw [e0, e1, e2, e3]
    by_cases a : 1 ≤ k
    · rw [if_pos a, if_pos a]; grind
    · rw [if_neg a, if_neg a]; grind
  · rw [if_neg z]
    have t0 : ∀ σ j, tt Y F v k σ j = 0 := fun σ j => if_neg (by omega)
    rw [t0, g1_cg (h := fun _ => 0) (fun a _ => t0 _ _), g2_cg (h := fun _ _ => 0) (fun a b _ _ => t0 _ _), g3_cg (h := fun _ _ _ => 0) (fun a b c _ _ _ => t0 _ _), g1_0, g2_0, const_N h]
    simp
theorem fif_g3 {V w : Nat → Nat} {Y x y : Nat} {F : Nat → Nat} (h : one01 w) (hN : 2 ≤ sm w 52) : g3 w (fun a b c => fif V Y F (f5 x y a b c) 5 32) 52 = cw V w F (sm w 52) 0 Y + (if V x ≤ Y then cw V w F (sm w 52) 1 (Y - V x) else 0) + (if V y ≤ Y then cw V w F (sm w 52) 1 (Y - V y) else 0) + (if V x + V y ≤ Y then cw V w F (sm w 52) 2 (Y - (V x + V y)) else 0) := by
  rw [g3_cg (fun a b c _ _ _ => fif_hh), g3_add, g3_add, g3_add, hh_cw h hN, hh_cw h hN, hh_cw h hN, hh_cw h hN, if_pos (Nat.zero_le _), Nat.sub_zero]
