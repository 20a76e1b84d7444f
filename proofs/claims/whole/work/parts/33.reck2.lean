/-! ===== reckonAll ===== -/
def rc1 (op a : Int32) (lv : Int32 → Int32 → Int64) (p : Nat) (s : List Int64) : Option (Option (Nat × List Int64)) :=
  if op.toInt < 20 then (if s.length < 400 then some (some (p + 1, lv op a :: s)) else none)
  else if op.toInt < 28 then (match s with
    | y :: x :: s' => if rbk op y = true ∨ ¬ (-1000000000 ≤ (rbin op x y).toInt ∧ (rbin op x y).toInt ≤ 1000000000) then some none else some (some (p + 1, rbin op x y :: s'))
    | _ => none)
  else if op = 28 then (match s with
    | x :: s' => some (some (p + 1, (1 - x) :: s'))
    | _ => none)
  else (match s with
    | x :: s' => if x = (if op = 29 then 0 else 1) then some (some (ix a, x :: s')) else some (some (p + 1, s'))
    | _ => none)
def rcP (co ca : Nat → Int32) (lv : Int32 → Int32 → Int64) (hi : Nat) : Nat → Nat → List Int64 → Option (Option (List Int64))
  | 0, _, _ => none
  | n + 1, p, s => if hi ≤ p then some (some s) else match rc1 (co p) (ca p) lv p s with
    | none => none
    | some none => some none
    | some (some q) => rcP co ca lv hi n q.1 q.2
/-- where the reference finds codes and words -/
def RcM (u : Nat) (M : Mem) (lo hi : Nat) (co ca : Nat → Int32) (lv : Int32 → Int32 → Int64) : Prop :=
  hi ≤ 400 ∧ ((mI M u 20 = 0 ∧ (∃ o : Nat, mI M u 34 = Int32.ofNat o ∧ o + 98 + 2 * hi + 1 < 5594 ∧ ∀ k, lo ≤ k → k < hi → mI M (u + 2) (o + 98 + 2 * k) = co k ∧ mI M (u + 2) (o + 98 + 2 * k + 1) = ca k) ∧ ∀ k, lo ≤ k → k < hi → (co k).toInt < 20 → (0 ≤ (co k).toInt ∧ (co k).toInt < 13 ∧ lv (co k) (ca k) = if co k = 0 then (ca k).toInt64 else mJ M (u + 18) (ix (co k))))
  ∨ (mI M u 20 = 1 ∧ (∀ k, lo ≤ k → k < hi → mI M (u + 11) k = co k ∧ mI M (u + 12) k = ca k) ∧ ∀ k, lo ≤ k → k < hi → (co k).toInt < 20 → (0 ≤ (co k).toInt ∧ ((co k).toInt < 6 ∨ (0 ≤ (ca k).toInt ∧ (ca k).toInt < 12)) ∧ lv (co k) (ca k) = if co k = 0 then (ca k).toInt64 else if (co k).toInt < 6 then mJ M (u + 19) (ix (co k)) else if co k = 6 then (mI M (u + 2) (16 + ix (ca k))).toInt64 else (at1 (cs (fun c => decide (mI M (u + 2) (18 + c) = Int32.ofNat (ix (ca k) / 6)))) (ix (ca k) % 6)).toInt64)))
def RcE (u : Nat) (M N : Mem) : Prop := Eo (fun q => q = u ∨ q = u + 20) M N ∧ (∀ k, k ≠ 38 → mI N u k = mI M u k) ∧ (∀ k, k ≠ 39 → mJ N u k = mJ M u k) ∧ mR N u = mR M u ∧ mN N u = mN M u ∧ mI N (u + 20) = mI M (u + 20) ∧ mR N (u + 20) = mR M (u + 20) ∧ mN N (u + 20) = mN M (u + 20)
theorem RcE.rf {u : Nat} {M : Mem} : RcE u M M := ⟨Eo.rf, fun _ _ => rfl, fun _ _ => rfl, rfl, rfl, rfl, rfl, rfl⟩
theorem RcE.tr {u : Nat} {M N K : Mem} (a : RcE u M N) (b : RcE u N K) : RcE u M K := ⟨a.1.tr b.1, fun k hk => (b.2.1 k hk).trans (a.2.1 k hk), fun k hk => (b.2.2.1 k hk).trans (a.2.2.1 k hk), b.2.2.2.1.trans a.2.2.2.1, b.2.2.2.2.1.trans a.2.2.2.2.1, b.2.2.2.2.2.1.trans a.2.2.2.2.2.1, b.2.2.2.2.2.2.1.trans a.2.2.2.2.2.2.1, b.2.2.2.2.2.2.2.trans a.2.2.2.2.2.2.2⟩
theorem RcE_b {u : Nat} {M : Mem} (v : Int32) : RcE u M (sI M u 38 v) := ⟨Eo_sI (Or.inl rfl), fun k hk => by rw [mI_sI, if_neg (fun q => hk q.2)], fun _ _ => rfl, rfl, rfl, funext fun k => by rw [mI_sI, if_neg (by omega)], rfl, rfl⟩
theorem RcE_j {u k : Nat} {M : Mem} (v : Int64) : RcE u M (sJ M (u + 20) k v) := ⟨Eo_sJ (Or.inr rfl), fun k _ => rfl, fun k _ => by rw [mJ_sJ, if_neg (by omega)], rfl, rfl, rfl, rfl, rfl⟩
theorem RcE_v {u : Nat} {M : Mem} (v : Int64) : RcE u M (sJ M u 39 v) := ⟨Eo_sJ (Or.inl rfl), fun k _ => rfl, fun k hk => by rw [mJ_sJ, if_neg (fun q => hk q.2)], rfl, rfl, rfl, rfl, rfl⟩
theorem RcM.keep {u : Nat} {M N : Mem} {lo hi : Nat} {co ca : Nat → Int32} {lv : Int32 → Int32 → Int64} (h : RcM u M lo hi co ca lv) (e : RcE u M N) : RcM u N lo hi co ca lv := by
  have e2 : mI N (u + 2) = mI M (u + 2) := (e.1 _ (by omega)).1
  have e11 : mI N (u + 11) = mI M (u + 11) := (e.1 _ (by omega)).1
  have e12 : mI N (u + 12) = mI M (u + 12) := (e.1 _ (by omega)).1
  have e18 : mJ N (u + 18) = mJ M (u + 18) := (e.1 _ (by omega)).2.1
  have e19 : mJ N (u + 19) = mJ M (u + 19) := (e.1 _ (by omega)).2.1
  unfold RcM at h ⊢
  rw [e2, e11, e12, e18, e19, e.2.1 20 (by decide), e.2.1 34 (by decide)]
  exact h
/-- the reference's stack -/
def StK (M : Mem) (u : Nat) (s : List Int64) : Prop := ∀ i, i < s.length → mJ M (u + 20) (s.length - 1 - i) = s.getD i 0
