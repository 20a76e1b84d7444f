/-! ===== sums ===== -/
def sm (g : Nat → Nat) : Nat → Nat
  | 0 => 0
  | n + 1 => sm g n + g n
theorem sm_s {g : Nat → Nat} {n : Nat} : sm g (n + 1) = sm g n + g n := rfl
theorem sm_cg {g h : Nat → Nat} : ∀ {n : Nat}, (∀ i, i < n → g i = h i) → sm g n = sm h n
  | 0, _ => rfl
  | n + 1, e => by rw [sm_s, sm_s, sm_cg (fun i hi => e i (by omega)), e n (by omega)]
theorem sm_add (g : Nat → Nat) (a : Nat) : ∀ b, sm g (a + b) = sm g a + sm (fun i => g (a + i)) b
  | 0 => rfl
  | b + 1 => by rw [← Nat.add_assoc, sm_s, sm_s, sm_add g a b, Nat.add_assoc]
theorem sm_0 {g : Nat → Nat} {n : Nat} (h : ∀ i, i < n → g i = 0) : sm g n = 0 := by
  induction n with
  | zero => rfl
  | succ n ih => rw [sm_s, ih (fun i hi => h i (by omega)), h n (by omega)]
theorem sm_plus (g h : Nat → Nat) : ∀ n, sm (fun i => g i + h i) n = sm g n + sm h n
  | 0 => rfl
  | n + 1 => by rw [sm_s, sm_s, sm_s, sm_plus g h n]; omega
theorem sm_mul (c : Nat) (g : Nat → Nat) : ∀ n, sm (fun i => c * g i) n = c * sm g n
  | 0 => rfl
  | n + 1 => by rw [sm_s, sm_s, sm_mul c g n, Nat.mul_add]
theorem sm_swap (g : Nat → Nat → Nat) (m : Nat) : ∀ n, sm (fun i => sm (fun j => g i j) m) n = sm (fun j => sm (fun i => g i j) n) m
  | 0 => (sm_0 (fun _ _ => rfl)).symm
  | n + 1 => by
    rw [sm_s, sm_swap g m n]
    show _ = sm (fun j => sm (fun i => g i j) n + g n j) m
    rw [sm_plus]
theorem sm_le {g : Nat → Nat} {b : Nat} : ∀ {n : Nat}, (∀ i, i < n → g i ≤ b) → sm g n ≤ n * b
  | 0, _ => Nat.zero_le _
  | n + 1, h => by
    have h1 := sm_le (n := n) (fun i hi => h i (by omega))
    have h2 := h n (by omega)
    rw [sm_s, Nat.add_mul, Nat.one_mul]; omega
theorem sm_mono {g : Nat → Nat} {a b : Nat} (h : a ≤ b) : sm g a ≤ sm g b := by
  obtain ⟨c, rfl⟩ : ∃ c, b = a + c := ⟨b - a, by omega⟩
  rw [sm_add]; omega
theorem sm_lt {g h : Nat → Nat} : ∀ {n : Nat}, (∀ i, i < n → g i ≤ h i) → sm g n ≤ sm h n
  | 0, _ => Nat.le_refl _
  | n + 1, e => by
    have h1 := sm_lt (n := n) (fun i hi => e i (by omega))
    have h2 := e n (by omega)
    rw [sm_s, sm_s]; omega
theorem sm_pt {n x v : Nat} (h : x < n) : sm (fun i => if i = x then v else 0) n = v := by
  obtain ⟨c, rfl⟩ : ∃ c, n = x + 1 + c := ⟨n - (x + 1), by omega⟩
  rw [sm_add, sm_s, sm_0 (fun i hi => if_neg (by omega)), sm_0 (g := fun i => if x + 1 + i = x then v else 0) (fun i hi => if_neg (by omega)), if_pos rfl]; omega
/-- all but one place are the same -/
theorem sm_up {g h : Nat → Nat} {n x : Nat} (hx : x < n) (e : ∀ i, i < n → i ≠ x → h i = g i) : sm h n + g x = sm g n + h x := by
  obtain ⟨c, rfl⟩ : ∃ c, n = x + 1 + c := ⟨n - (x + 1), by omega⟩
  rw [sm_add h (x + 1), sm_add g (x + 1), sm_s, sm_s, sm_cg (g := h) (h := g) (fun i hi => e i (by omega) (by omega)), sm_cg (g := fun i => h (x + 1 + i)) (h := fun i => g (x + 1 + i)) (fun i hi => e _ (by omega) (by omega))]; omega
/-! ===== what five cards count ===== -/
def bt (s k : Nat) : Nat := s / 2 ^ k % 2
def szS (s m : Nat) : Nat := sm (fun k => bt s k) m
def suS (V f : Nat → Nat) (s m : Nat) : Nat := sm (fun k => bt s k * V (f k)) m
def fif (V : Nat → Nat) (Y : Nat) (F f : Nat → Nat) (m n : Nat) : Nat := sm (fun s => if 1 < szS s m ∧ suS V f s m = Y then F (szS s m) else 0) n
def prs (P g : Nat → Nat) (m : Nat) : Nat := sm (fun a => sm (fun b => if g a = g b then P (g a) else 0) a) m
def cnk (g : Nat → Nat) (m r : Nat) : Nat := sm (fun k => if g k = r then 1 else 0) m
def rsc (h : Nat → Nat) : Nat → Nat × Nat
  | 0 => (0, 1)
  | r + 1 => if h r = 0 then (0, 1) else ((rsc h r).1 + 1, (rsc h r).2 * h r)
def rsn (R h : Nat → Nat) : Nat → Nat
  | 0 => 0
  | r + 1 => rsn R h r + (if h r = 0 ∧ 2 < (rsc h r).1 then (rsc h r).2 * R (rsc h r).1 else 0)
def rns (R f : Nat → Nat) : Nat := rsn R (cnk (fun k => f k / 4) 5) 14
def fls (L : Nat → Nat) (crib : Nat) (f : Nat → Nat) : Nat := if f 1 % 4 = f 0 % 4 ∧ f 2 % 4 = f 0 % 4 ∧ f 3 % 4 = f 0 % 4 then (if f 4 % 4 = f 0 % 4 then L (2 * (f 0 % 4) + 1) else if crib = 1 then 0 else L (2 * (f 0 % 4))) else 0
def nbs (N f : Nat → Nat) : Nat := sm (fun k => if f k / 4 = 10 ∧ f k % 4 = f 4 % 4 then N (f k % 4) else 0) 4
/-- a part of what five cards count, and all -/
def amt (V : Nat → Nat) (Y : Nat) (C : Nat → Nat → Nat) (crib : Nat) (f : Nat → Nat) : Nat → Nat
  | 1 => fif V Y (C 1) f 5 32
  | 2 => prs (C 2) (fun k => f k / 4) 5
  | 3 => rns (C 3) f
  | 4 => fls (C 4) crib f
  | 5 => nbs (C 5) f
  | _ => fif V Y (C 1) f 5 32 + prs (C 2) (fun k => f k / 4) 5 + rns (C 3) f + fls (C 4) crib f + nbs (C 5) f
theorem rsc_s {h : Nat → Nat} {r : Nat} : rsc h (r + 1) = if h r = 0 then (0, 1) else ((rsc h r).1 + 1, (rsc h r).2 * h r) := rfl
theorem rsc_le {h : Nat → Nat} : ∀ r, (rsc h r).1 ≤ sm h r
  | 0 => Nat.le_refl _
  | r + 1 => by
    have := rsc_le (h := h) r
    rw [rsc_s, sm_s]
    split
    · exact Nat.zero_le _
    · show (rsc h r).1 + 1 ≤ _
      omega
theorem rsc_ge {h : Nat → Nat} {r0 : Nat} (h0 : h r0 = 0) : ∀ j, (rsc h (r0 + 1 + j)).1 + sm h (r0 + 1) ≤ sm h (r0 + 1 + j)
  | 0 => by
    show (rsc h (r0 + 1)).1 + _ ≤ _
    rw [rsc_s, if_pos h0]; show 0 + _ ≤ _; rw [Nat.zero_add]; exact Nat.le_refl _
  | j + 1 => by
    have := rsc_ge h0 j
    rw [← Nat.add_assoc, rsc_s, sm_s (g := h) (n := r0 + 1 + j)]
    split
    · show 0 + _ ≤ _
      omega
    · show (rsc h (r0 + 1 + j)).1 + 1 + _ ≤ _
      omega
theorem rsn_s {R h : Nat → Nat} {r : Nat} : rsn R h (r + 1) = rsn R h r + (if h r = 0 ∧ 2 < (rsc h r).1 then (rsc h r).2 * R (rsc h r).1 else 0) := rfl
/-- only one run -/
theorem rsn_one {R h : Nat → Nat} {r : Nat} (h5 : ∀ j, sm h j ≤ 5) (hb : ∀ i, i < r → ¬ (h i = 0 ∧ 2 < (rsc h i).1)) : rsn R h r = 0 := by
  induction r with
  | zero => rfl
  | succ r ih => rw [rsn_s, ih (fun i hi => hb i (by omega)), if_neg (hb r (by omega))]
theorem rsn_run {R h : Nat → Nat} {r : Nat} (h5 : ∀ j, sm h j ≤ 5) (hb : ∀ i, i < r → ¬ (h i = 0 ∧ 2 < (rsc h i).1)) (hr : h r = 0 ∧ 2 < (rsc h r).1) : ∀ j, rsn R h (r + 1 + j) = (rsc h r).2 * R (rsc h r).1
  | 0 => by
    show rsn R h (r + 1) = _
    rw [rsn_s, rsn_one h5 hb, if_pos hr, Nat.zero_add]
  | j + 1 => by
    rw [← Nat.add_assoc, rsn_s, rsn_run h5 hb hr j]
    have a := rsc_ge hr.1 j
    have b := rsc_le (h := h) r
    have c := sm_mono (g := h) (show r ≤ r + 1 by omega)
    have d := h5 (r + 1 + j)
    rw [if_neg (fun z => by omega), Nat.add_zero]
theorem cnk_le {g : Nat → Nat} {m r : Nat} : cnk g m r ≤ m := by
  have := sm_le (g := fun k => if g k = r then 1 else 0) (b := 1) (n := m) (fun i _ => by split <;> omega)
  unfold cnk; omega
theorem cnk_s {g : Nat → Nat} {m r : Nat} : cnk g (m + 1) r = cnk g m r + if g m = r then 1 else 0 := rfl
theorem cnk_sum {g : Nat → Nat} : ∀ (m j : Nat), sm (cnk g m) j ≤ m
  | 0, j => Nat.le_of_eq (sm_0 (fun _ _ => rfl))
  | m + 1, j => by
    have h := cnk_sum (g := g) m j
    have e : sm (cnk g (m + 1)) j = sm (cnk g m) j + sm (fun r => if g m = r then 1 else 0) j := sm_plus _ _ _
    have e2 : sm (fun r => if g m = r then 1 else 0) j ≤ 1 := by
      by_cases z : g m < j
      · rw [sm_cg (h := fun r => if r = g m then 1 else 0) (fun i _ => by simp only [eq_comm]), sm_pt z]
        exact Nat.le_refl _
      · rw [sm_0 (fun i hi => if_neg (by omega))]; omega
    omega
theorem rsc_2 {h : Nat → Nat} (h5 : ∀ i, h i ≤ 5) : ∀ r, (rsc h r).2 ≤ 5 ^ (rsc h r).1
  | 0 => Nat.le_refl _
  | r + 1 => by
    rw [rsc_s]
    split
    · exact Nat.le_refl _
    · show (rsc h r).2 * h r ≤ 5 ^ ((rsc h r).1 + 1)
      rw [Nat.pow_succ]
      exact Nat.mul_le_mul (rsc_2 h5 r) (h5 r)
/-- the first run, or none -/
theorem rsn_ex {h : Nat → Nat} (n : Nat) : (∀ i, i < n → ¬ (h i = 0 ∧ 2 < (rsc h i).1)) ∨ ∃ r, r < n ∧ (h r = 0 ∧ 2 < (rsc h r).1) ∧ ∀ i, i < r → ¬ (h i = 0 ∧ 2 < (rsc h i).1) := by
  induction n with
  | zero => exact Or.inl (fun i hi => absurd hi (by omega))
  | succ n ih =>
    rcases ih with a | ⟨r, a, b, c⟩
    · by_cases z : h n = 0 ∧ 2 < (rsc h n).1
      · exact Or.inr ⟨n, by omega, z, a⟩
      · refine Or.inl (fun i hi => ?_)
        by_cases y : i = n
        · rw [y]; exact z
        · exact a i (by omega)
    · exact Or.inr ⟨r, by omega, b, c⟩
theorem rns_le {R f : Nat → Nat} (hR : ∀ k, R k ≤ 99) : rns R f ≤ 309375 := by
  unfold rns
  generalize hh : cnk (fun k => f k / 4) 5 = h
  have h5 : ∀ j, sm h j ≤ 5 := fun j => by rw [← hh]; exact cnk_sum 5 j
  have h1 : ∀ i, h i ≤ 5 := fun i => by rw [← hh]; exact cnk_le
  rcases rsn_ex (h := h) 14 with a | ⟨r, a, b, c⟩
  · rw [rsn_one h5 a]; omega
  · obtain ⟨j, hj⟩ : ∃ j, 14 = r + 1 + j := ⟨13 - r, by omega⟩
    rw [hj, rsn_run h5 c b j]
    have e1 := rsc_2 h1 r
    have e2 : 5 ^ (rsc h r).1 ≤ 5 ^ 5 := Nat.pow_le_pow_right (by decide) (Nat.le_trans (rsc_le r) (h5 r))
    exact Nat.le_trans (Nat.mul_le_mul (Nat.le_trans e1 e2) (hR _)) (by decide)
theorem amt_le {V : Nat → Nat} {Y crib : Nat} {C : Nat → Nat → Nat} {f : Nat → Nat} (hC : ∀ k i, C k i ≤ 99) (w : Nat) : amt V Y C crib f w ≤ 400000 := by
  have a1 : fif V Y (C 1) f 5 32 ≤ 32 * 99 := sm_le (fun i _ => by
    show (if _ then C 1 _ else 0) ≤ 99
    split
    · exact hC _ _
    · omega)
  have a2 : prs (C 2) (fun k => f k / 4) 5 ≤ 5 * 500 := sm_le (fun a ha => by
    have : sm (fun b => if f a / 4 = f b / 4 then C 2 (f a / 4) else 0) a ≤ a * 99 := sm_le (fun i _ => by
      show (if _ then C 2 _ else 0) ≤ 99
      split
      · exact hC _ _
      · omega)
    show sm (fun b => if f a / 4 = f b / 4 then C 2 (f a / 4) else 0) a ≤ 500
    omega)
  have a3 := rns_le (R := C 3) (f := f) (hC 3)
  have a4 : fls (C 4) crib f ≤ 99 := by
    have h := hC 4
    unfold fls
    split
    · split
      · exact h _
      · split
        · omega
        · exact h _
    · omega
  have a5 : nbs (C 5) f ≤ 4 * 99 := sm_le (fun i _ => by
    show (if _ then C 5 _ else 0) ≤ 99
    split
    · exact hC _ _
    · omega)
  unfold amt
  split <;> omega
