/-! ===== the reference's reckoner of codes, as a pure function ===== -/
def rbin (op : Int32) (a b : Int64) : Int64 :=
  if op = 20 then a + b else if op = 21 then a - b else if op = 22 then a * b else if op = 23 then (if b = 0 then 0 else a / b) else if op = 24 then (if b = 0 then 0 else lrm a b) else if op = 25 then (if b ≤ a then 0 else 1) else if op = 26 then (if a ≤ b then 0 else 1) else (if a = b then 1 else 0)
def rbk (op : Int32) (b : Int64) : Bool := decide ((op = 23 ∨ op = 24) ∧ b = 0)
theorem reckon_so (u : Nat) (op : Int32) (a b : Int64) (M : Mem) (h0 : mI M u 38 = 0) : FX12_reckon u op a b M = some (rbin op a b, if op = 23 ∨ op = 24 then sI M u 38 (if b = 0 then 1 else 0) else M) := by
  have e : ∀ v, mI (sI M u 38 v) u 38 = v := fun v => by rw [mI_sI, if_pos ⟨rfl, rfl⟩]
  have b1 : isB 1 = true := rfl
  have b0 : isB 0 = true := rfl
  unfold FX12_reckon rbin
  simp only [sw]
  by_cases c0 : op = 20
  · subst c0; rw [if_pos (by decide), if_pos rfl, if_neg (by decide)]
  rw [if_neg (show ¬ op.toInt = 20 from fun q => c0 (Int32.toInt_inj.mp q)), if_neg c0]
  by_cases c1 : op = 21
  · subst c1; rw [if_pos (by decide), if_pos rfl, if_neg (by decide)]
  rw [if_neg (show ¬ op.toInt = 20 + 1 from fun q => c1 (Int32.toInt_inj.mp q)), if_neg c1]
  by_cases c2 : op = 22
  · subst c2; rw [if_pos (by decide), if_pos rfl, if_neg (by decide)]
  rw [if_neg (show ¬ op.toInt = 20 + 1 + 1 from fun q => c2 (Int32.toInt_inj.mp q)), if_neg c2]
  by_cases c3 : op = 23
  · subst c3; rw [if_pos (by decide), if_pos rfl, if_pos (Or.inl rfl)]
    by_cases hb : b = 0
    · subst hb
      simp [jn1, gd, nm, e, b1]
    · simp [jn1, gd, nm, e, b0, hb]
  rw [if_neg (show ¬ op.toInt = 20 + 1 + 1 + 1 from fun q => c3 (Int32.toInt_inj.mp q)), if_neg c3]
  by_cases c4 : op = 24
  · subst c4; rw [if_pos (by decide), if_pos rfl, if_pos (Or.inr rfl)]
    by_cases hb : b = 0
    · subst hb
      simp [jn1, gd, nm, e, b1]
    · simp [jn1, gd, nm, e, b0, hb]
  rw [if_neg (show ¬ op.toInt = 20 + 1 + 1 + 1 + 1 from fun q => c4 (Int32.toInt_inj.mp q)), if_neg c4, if_neg (show ¬ (op = 23 ∨ op = 24) from fun q => q.elim c3 c4)]
  by_cases c5 : op = 25
  · subst c5; rw [if_pos (by decide), if_pos rfl]; unfold jn1; simp only []; split <;> rfl
  rw [if_neg (show ¬ op.toInt = 20 + 1 + 1 + 1 + 1 + 1 from fun q => c5 (Int32.toInt_inj.mp q)), if_neg c5]
  by_cases c6 : op = 26
  · subst c6; rw [if_pos (by decide), if_pos rfl]; unfold jn1; simp only []; split <;> rfl
  rw [if_neg (show ¬ op.toInt = 20 + 1 + 1 + 1 + 1 + 1 + 1 from fun q => c6 (Int32.toInt_inj.mp q)), if_neg c6]
  unfold jn1; simp only []
  by_cases hc : a = b
  · rw [if_neg (fun q => q hc), if_pos hc]
  · rw [if_pos hc, if_neg hc]
