/-! ===== terms ===== -/
def tmLo (k : Nat) : Nat := ([0, 0, 0, 5] : List Nat).getD k 0
def tmHi (k : Nat) : Nat := ([999, 10, 9, 31] : List Nat).getD k 0
def tmA (t k : Nat) : Nat := if k = 0 then t + 1 + 1 else t + 1 + 8
def tmK (k : Nat) : Nat := if k = 0 then 12 else k - 1
def tmI (k : Nat) : Nat := if k = 0 then 8 else 4 + k
theorem tm_tab : ∀ k, k < 4 → (([0, 0, 0, 5] : List Int32).getD (ix (Int32.ofNat k)) 0).toInt = (tmLo k : Int) ∧ (([999, 10, 9, 31] : List Int32).getD (ix (Int32.ofNat k)) 0).toInt = (tmHi k : Int) ∧ ¬ Int32.ofNat k < 0 ∧ ¬ (4 : Int32) ≤ Int32.ofNat k := by decide
theorem tm_term {t k : Nat} {M : Mem} (hk : k < 4) : FX6_term (t + 1) (Int32.ofNat k) M = some (mI M (tmA t k) (tmK k)) := by
  match k, hk with
  | 0, _ => rfl
  | 1, _ => rfl
  | 2, _ => rfl
  | 3, _ => rfl
  | k + 4, hk => exact absurd hk (by omega)
theorem tm_set {t k : Nat} {p : Int32} {M : Mem} (hk : k < 4) : FX6_setTerm (t + 1) (Int32.ofNat k) p M = some (sI M (tmA t k) (tmK k) p) := by
  match k, hk with
  | 0, _ => rfl
  | 1, _ => rfl
  | 2, _ => rfl
  | 3, _ => rfl
  | k + 4, hk => exact absurd hk (by omega)
theorem terms_c {t k : Nat} {p : Int32} {M : Mem} (hk : k < 4) : FX11_terms t (Int32.ofNat k) p M = if (tmLo k : Int) ≤ p.toInt ∧ p.toInt ≤ tmHi k then some (mI M (tmA t k) (tmK k), sI (sI (sI M (tmA t k) (tmK k) p) (t + 29) 3 0) t 16 0) else bdM (FX11_refuse t (-1) M) (fun r N => some (r, N)) := by
  obtain ⟨a1, a2, a3, a4⟩ := tm_tab k hk
  unfold FX11_terms
  rw [jb, if_neg a3, if_neg a4, gp (inb_nn hk (by decide)), gp (inb_nn hk (by decide))]
  generalize ([0, 0, 0, 5] : List Int32).getD (ix (Int32.ofNat k)) 0 = lo at a1 ⊢
  generalize ([999, 10, 9, 31] : List Int32).getD (ix (Int32.ofNat k)) 0 = hi at a2 ⊢
  by_cases c1 : p < lo
  · rw [if_pos c1, if_neg (fun z => by rw [Int32.lt_iff_toInt_lt] at c1; omega)]
  · rw [if_neg c1]
    by_cases c2 : p ≤ hi
    · rw [if_pos c2, if_pos (by rw [Int32.lt_iff_toInt_lt] at c1; rw [Int32.le_iff_toInt_le] at c2; omega), ob (tm_term hk), ob (tm_set hk)]
      rfl
    · rw [if_neg c2, if_neg (fun z => by rw [Int32.le_iff_toInt_le] at c2; omega)]
theorem terms_r {u k : Nat} {p : Int32} {M : Mem} (hk : k < 4) : FX12_terms u (Int32.ofNat k) p M = if (tmLo k : Int) ≤ p.toInt ∧ p.toInt ≤ tmHi k then some (mI (sI (sI M u 0 0) u 8 0) (u + 2) (tmI k), sI (sI (sI (sI M u 0 0) u 8 0) (u + 2) (tmI k) p) u 1 0) else bdM (FX12_tell u (-1) (sI M u 0 0)) (fun r N => some (r, N)) := by
  match k, hk with
  | 0, _ =>
    show (FX12_in p.toInt64 0 999).bind (fun r => if ¬ r = 0 then bdM (FX12_change u 8 p (sI (sI M u 0 0) u 8 0)) (fun r N => some (r, N)) else bdM (FX12_tell u (-1) (sI M u 0 0)) (fun r N => some (r, N))) = _
    rw [ob (show FX12_in p.toInt64 0 999 = some (if (tmLo 0 : Int) ≤ p.toInt ∧ p.toInt ≤ tmHi 0 then 1 else 0) from in_i p 0 999)]
    by_cases c : (tmLo 0 : Int) ≤ p.toInt ∧ p.toInt ≤ tmHi 0
    · rw [if_pos c, if_pos c, if_pos (by decide)]; rfl
    · rw [if_neg c, if_neg c, if_neg (by decide)]
  | 1, _ =>
    show (FX12_in p.toInt64 0 10).bind (fun r => if ¬ r = 0 then bdM (FX12_change u 5 p (sI (sI M u 0 0) u 8 0)) (fun r N => some (r, N)) else bdM (FX12_tell u (-1) (sI M u 0 0)) (fun r N => some (r, N))) = _
    rw [ob (show FX12_in p.toInt64 0 10 = some (if (tmLo 1 : Int) ≤ p.toInt ∧ p.toInt ≤ tmHi 1 then 1 else 0) from in_i p 0 10)]
    by_cases c : (tmLo 1 : Int) ≤ p.toInt ∧ p.toInt ≤ tmHi 1
    · rw [if_pos c, if_pos c, if_pos (by decide)]; rfl
    · rw [if_neg c, if_neg c, if_neg (by decide)]
  | 2, _ =>
    show (FX12_in p.toInt64 0 9).bind (fun r => if ¬ r = 0 then bdM (FX12_change u 6 p (sI (sI M u 0 0) u 8 0)) (fun r N => some (r, N)) else bdM (FX12_tell u (-1) (sI M u 0 0)) (fun r N => some (r, N))) = _
    rw [ob (show FX12_in p.toInt64 0 9 = some (if (tmLo 2 : Int) ≤ p.toInt ∧ p.toInt ≤ tmHi 2 then 1 else 0) from in_i p 0 9)]
    by_cases c : (tmLo 2 : Int) ≤ p.toInt ∧ p.toInt ≤ tmHi 2
    · rw [if_pos c, if_pos c, if_pos (by decide)]; rfl
    · rw [if_neg c, if_neg c, if_neg (by decide)]
  | 3, _ =>
    show (FX12_in p.toInt64 5 31).bind (fun r => if r = 0 then bdM (FX12_tell u (-1) (sI M u 0 0)) (fun r N => some (r, N)) else bdM (FX12_change u 7 p (sI (sI M u 0 0) u 8 0)) (fun r N => some (r, N))) = _
    rw [ob (show FX12_in p.toInt64 5 31 = some (if (tmLo 3 : Int) ≤ p.toInt ∧ p.toInt ≤ tmHi 3 then 1 else 0) from in_i p 5 31)]
    by_cases c : (tmLo 3 : Int) ≤ p.toInt ∧ p.toInt ≤ tmHi 3
    · rw [if_pos c, if_pos c, if_neg (by decide)]; rfl
    · rw [if_neg c, if_neg c, if_pos (by decide)]
  | k + 4, hk => exact absurd hk (by omega)
theorem terms_no {u : Nat} {p1 p2 : Int32} {M : Mem} (h : ¬ (0 ≤ p1.toInt ∧ p1.toInt < 4)) : FX12_terms u p1 p2 M = bdM (FX12_tell u (-1) (sI M u 0 0)) (fun r N => some (r, N)) := by
  have n0 : ∀ q : Int32, 0 ≤ q.toInt → q.toInt < 4 → p1 ≠ q := fun q a b z => h (by rw [z]; exact ⟨a, b⟩)
  unfold FX12_terms
  rw [nmb]
  show (if ¬ p1 = 0 then _ else _) = _
  rw [if_pos (n0 0 (by decide) (by decide)), if_pos (n0 1 (by decide) (by decide)), if_pos (n0 2 (by decide) (by decide))]
  show (if ¬ p1 = 3 then _ else _) = _
  rw [if_pos (n0 3 (by decide) (by decide))]
  rfl
theorem terms_nc {t : Nat} {p1 p2 : Int32} {M : Mem} (h : ¬ (0 ≤ p1.toInt ∧ p1.toInt < 4)) : FX11_terms t p1 p2 M = bdM (FX11_refuse t (-1) M) (fun r N => some (r, N)) := by
  unfold FX11_terms
  rw [jb]
  by_cases c : p1 < 0
  · rw [if_pos c]
  · rw [if_neg c, if_pos (by rw [i_lt0] at c; rw [Int32.le_iff_toInt_le, show (4 : Int32).toInt = 4 from rfl]; omega)]
