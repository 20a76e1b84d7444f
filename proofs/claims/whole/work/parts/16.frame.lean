/-! ===== what stays as it was ===== -/
/-- the memories agree at an address -/
def Ea (M N : Mem) (a : Nat) : Prop := mI N a = mI M a ∧ mJ N a = mJ M a ∧ mR N a = mR M a ∧ mN N a = mN M a
theorem Ea.rf (M : Mem) (a : Nat) : Ea M M a := ⟨rfl, rfl, rfl, rfl⟩
theorem Ea.tr {M N K : Mem} {a : Nat} (h : Ea M N a) (h2 : Ea N K a) : Ea M K a := ⟨h2.1.trans h.1, h2.2.1.trans h.2.1, h2.2.2.1.trans h.2.2.1, h2.2.2.2.trans h.2.2.2⟩
theorem Ea_sI {M : Mem} {a b k : Nat} {v : Int32} (h : b ≠ a) : Ea M (sI M a k v) b := ⟨funext fun j => by rw [mI_sI, if_neg (fun q => h q.1)], rfl, rfl, rfl⟩
theorem Ea_sJ {M : Mem} {a b k : Nat} {v : Int64} (h : b ≠ a) : Ea M (sJ M a k v) b := ⟨rfl, funext fun j => by rw [mJ_sJ, if_neg (fun q => h q.1)], rfl, rfl⟩
theorem Ea_sR {M : Mem} {a b k : Nat} {v : Option Nat} (h : b ≠ a) : Ea M (sR M a k v) b := ⟨rfl, rfl, funext fun j => by rw [mR_sR, if_neg (fun q => h q.1)], rfl⟩
theorem Ea_aI {M : Mem} {a b : Nat} {g : Nat → Int32} (h : b ≠ a) : Ea M (aI M a g) b := ⟨funext fun j => by rw [mI_aI, if_neg h], rfl, rfl, rfl⟩
theorem Ea_aJ {M : Mem} {a b : Nat} {g : Nat → Int64} (h : b ≠ a) : Ea M (aJ M a g) b := ⟨rfl, funext fun j => by rw [mJ_aJ, if_neg h], rfl, rfl⟩
/-- they agree outside some addresses -/
def Eo (P : Nat → Prop) (M N : Mem) : Prop := ∀ a, ¬ P a → Ea M N a
theorem Eo.rf {P : Nat → Prop} {M : Mem} : Eo P M M := fun a _ => Ea.rf M a
theorem Eo.tr {P : Nat → Prop} {M N K : Mem} (h : Eo P M N) (h2 : Eo P N K) : Eo P M K := fun a ha => (h a ha).tr (h2 a ha)
theorem Eo.up {P Q : Nat → Prop} {M N : Mem} (h : Eo P M N) (hq : ∀ a, P a → Q a) : Eo Q M N := fun a ha => h a (fun q => ha (hq a q))
theorem Eo_sI {P : Nat → Prop} {M : Mem} {a k : Nat} {v : Int32} (h : P a) : Eo P M (sI M a k v) := fun b hb => Ea_sI (fun e => hb (e ▸ h))
theorem Eo_sJ {P : Nat → Prop} {M : Mem} {a k : Nat} {v : Int64} (h : P a) : Eo P M (sJ M a k v) := fun b hb => Ea_sJ (fun e => hb (e ▸ h))
theorem Eo_sR {P : Nat → Prop} {M : Mem} {a k : Nat} {v : Option Nat} (h : P a) : Eo P M (sR M a k v) := fun b hb => Ea_sR (fun e => hb (e ▸ h))
theorem Eo_aI {P : Nat → Prop} {M : Mem} {a : Nat} {g : Nat → Int32} (h : P a) : Eo P M (aI M a g) := fun b hb => Ea_aI (fun e => hb (e ▸ h))
theorem Eo_aJ {P : Nat → Prop} {M : Mem} {a : Nat} {g : Nat → Int64} (h : P a) : Eo P M (aJ M a g) := fun b hb => Ea_aJ (fun e => hb (e ▸ h))
/-! ===== a table ===== -/
/-- the Table at b holds what the row r tells of the table -/
def TR (M : Mem) (b : Nat) (r : Nat → Int32) : Prop :=
  Bs (mJ M (b + 1) 0) (fun c => decide (r (18 + c) = 0)) ∧ Bs (mJ M (b + 1) 1) (fun c => decide (r (18 + c) = 1)) ∧ Bs (mJ M b 3) (fun c => decide (r (18 + c) = 2)) ∧ Bs (mJ M b 4) (fun c => decide (r (70 + c) = 1)) ∧
  mI M b 5 = r 9 ∧ mI M b 6 = r 10 ∧ mI M b 7 = r 11 ∧ mI M b 8 = r 13 ∧ mI M b 9 = r 12 ∧ mI M b 10 = r 14 ∧ mI M b 11 = r 15 ∧ mI M b 12 = r 8 ∧
  mI M (b + 2) 0 = r 16 ∧ mI M (b + 2) 1 = r 17 ∧ ∀ k, k < 8 → mI M (b + 3) k = r (122 + k)
theorem TR.keep {M N : Mem} {b : Nat} {r : Nat → Int32} (h : TR M b r) (e0 : Ea M N b) (e1 : Ea M N (b + 1)) (e2 : Ea M N (b + 2)) (e3 : Ea M N (b + 3)) : TR N b r := by
  unfold TR
  rw [e0.1, e0.2.1, e1.2.1, e2.1, e3.1]
  exact h
theorem TR.row {M : Mem} {b : Nat} {r r' : Nat → Int32} (h : TR M b r) (e : ∀ k, 8 ≤ k → k < 130 → r' k = r k) : TR M b r' := by
  obtain ⟨h1, h2, h3, h4, h5, h6, h7, h8, h9, h10, h11, h12, h13, h14, h15⟩ := h
  refine ⟨h1.congr (fun c hc => ?_), h2.congr (fun c hc => ?_), h3.congr (fun c hc => ?_), h4.congr (fun c hc => ?_), ?_, ?_, ?_, ?_, ?_, ?_, ?_, ?_, ?_, ?_, fun k hk => ?_⟩
  · rw [e (18 + c) (by omega) (by omega)]
  · rw [e (18 + c) (by omega) (by omega)]
  · rw [e (18 + c) (by omega) (by omega)]
  · rw [e (70 + c) (by omega) (by omega)]
  all_goals first | (rw [e _ (by omega) (by omega)]; assumption) | (rw [e _ (by omega) (by omega)]; exact h15 k hk)
/-- what a row may tell of a table -/
def TV (r : Nat → Int32) : Prop :=
  (0 ≤ (r 8).toInt ∧ (r 8).toInt ≤ 999) ∧ (r 9 = 0 ∨ r 9 = 1 ∨ r 9 = 2 ∨ r 9 = 3) ∧ (r 10 = 0 ∨ r 10 = 1) ∧ (r 11 = -1 ∨ ∃ c, c < 52 ∧ r 11 = Int32.ofNat c) ∧
  (0 ≤ (r 12).toInt ∧ (r 12).toInt ≤ 31) ∧ (∃ n, n ≤ 8 ∧ r 13 = Int32.ofNat n ∧ n ≤ (cs (fun c => decide (r (70 + c) = 1))).length ∧ ∀ k, k < n → ∃ c, c < 52 ∧ r (122 + k) = Int32.ofNat c) ∧
  (r 14 = -1 ∨ r 14 = 0 ∨ r 14 = 1) ∧ (r 15 = -1 ∨ r 15 = 0 ∨ r 15 = 1) ∧ (0 ≤ (r 16).toInt ∧ (r 16).toInt ≤ 9999) ∧ (0 ≤ (r 17).toInt ∧ (r 17).toInt ≤ 9999) ∧
  (∀ c, c < 52 → r (18 + c) = -1 ∨ r (18 + c) = 0 ∨ r (18 + c) = 1 ∨ r (18 + c) = 2 ∨ r (18 + c) = 3) ∧ (∀ c, c < 52 → (r (18 + c) = 3 ↔ r 11 = Int32.ofNat c)) ∧ (∀ c, c < 52 → r (70 + c) = 0 ∨ r (70 + c) = 1) ∧ (∀ c, c < 52 → r 9 = 2 → r (70 + c) = 1 → r (18 + c) = 0 ∨ r (18 + c) = 1) ∧
  (r 9 = 0 → (∀ c, c < 52 → r (18 + c) = -1) ∧ r 11 = -1) ∧ (r 9 ≠ 0 → r 11 ≠ -1) ∧ (r 9 ≠ 2 → r 14 = -1) ∧
  (r 9 = 1 → 4 ≤ (cs (fun c => decide (r (18 + c) = 0))).length ∧ (cs (fun c => decide (r (18 + c) = 0))).length ≤ 6 ∧ 4 ≤ (cs (fun c => decide (r (18 + c) = 1))).length ∧ (cs (fun c => decide (r (18 + c) = 1))).length ≤ 6 ∧ (cs (fun c => decide (r (18 + c) = 0))).length + (cs (fun c => decide (r (18 + c) = 1))).length + (cs (fun c => decide (r (18 + c) = 2))).length = 12 ∧ 8 < (cs (fun c => decide (r (18 + c) = 0))).length + (cs (fun c => decide (r (18 + c) = 1))).length) ∧
  (r 9 = 2 ∨ r 9 = 3 → (cs (fun c => decide (r (18 + c) = 0))).length = 4 ∧ (cs (fun c => decide (r (18 + c) = 1))).length = 4 ∧ (cs (fun c => decide (r (18 + c) = 2))).length = 4)
