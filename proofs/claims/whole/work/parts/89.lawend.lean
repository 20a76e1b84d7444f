/-! ===== the reference stores a law ===== -/
def lawE (t : Nat) (M5 : Mem) : Option (Int32 × Mem) :=
  (FX12_endText t M5).bind fun M10 => if (mI M10 t 19) = 0 then nm (194 + (900 * (mI M10 (t + 2) 1))) fun v12 => gd (inb (v12 + 1) 5594) <| nm (sI M10 (t + 2) (ix (v12 + 1)) (mI M10 t 21)) fun M14 => wl2 (fun (v16 : Int32) (M17 : Mem) rec18 => if (8 * (mI M17 t 21)) ≤ v16 then wl2 (fun (v20 : Int32) (M21 : Mem) rec22 => if (mI M21 t 23) ≤ v20 then nm (sI M21 (t + 2) 1 ((mI M21 (t + 2) 1) + 1)) fun M25 => bdM (FX12_tell t ((mI M25 (t + 2) 1) - 1) M25) fun r28 M27 => some (r28, M27) else gd (inb v20 400) <| gd (inb ((v12 + 98) + (2 * v20)) 5594) <| nm (sI M21 (t + 2) (ix ((v12 + 98) + (2 * v20))) (mI M21 (t + 11) (ix v20))) fun M32 => gd (inb v20 400) <| gd (inb (((v12 + 98) + (2 * v20)) + 1) 5594) <| nm (sI M32 (t + 2) (ix (((v12 + 98) + (2 * v20)) + 1)) (mI M32 (t + 12) (ix v20))) fun M37 => nm (v20 + 1) fun v39 => rec22 v39 M37) fuel 0 M17 else gd (inb v16 96) <| gd (inb ((v12 + 2) + v16) 5594) <| nm (sI M17 (t + 2) (ix ((v12 + 2) + v16)) (mI M17 (t + 10) (ix v16))) fun M43 => nm (v16 + 1) fun v45 => rec18 v45 M43) fuel 0 M14 else bdM (FX12_tell t (-6) M10) fun r47 M46 => some (r47, M46)
theorem law_eq (u : Nat) (M : Mem) : FX12_law u M = nm (sI M u 0 0) fun M1 => if ¬ (mI M1 (u + 2) 1) = 6 then (FX12_beginText u 0 M1).bind fun M3 => (FX12_readLaw u M3).bind fun M4 => wl1 (lawStep u (lawE u)) fuel M4 else nm (sI M1 u 13 0) fun M51 => bdM (FX12_tell u (-5) M51) fun r53 M52 => some (r53, M52) := rfl
theorem end_bad {u f : Nat} {N : Mem} (b : Bad u N f) : FX12_endText u N = some (sI (sI N u 20 0) u 13 0) := by
  unfold FX12_endText jn1
  show (if ¬ mI N u 19 = 0 then some (sI (sI N u 20 0) u 13 0) else if mI N u 16 = 0 then some (sI (sI N u 20 0) u 13 0) else (FX12_must u 0 N).bind fun M6 => some (sI (sI M6 u 20 0) u 13 0)) = _
  rw [if_pos (by rw [b.1]; decide)]
theorem end_ok {B : Nat → Nat} {L u o p lv : Nat} {N : Mem} {C : List (Nat × Nat)} (r : RE B L u o N p lv C) (hk : tkK B L p = 0) : FX12_endText u N = some (sI (sI N u 20 0) u 13 0) := by
  unfold FX12_endText jn1
  show (if ¬ mI N u 19 = 0 then some (sI (sI N u 20 0) u 13 0) else if mI N u 16 = 0 then some (sI (sI N u 20 0) u 13 0) else (FX12_must u 0 N).bind fun M6 => some (sI (sI M6 u 20 0) u 13 0)) = _
  rw [if_neg (fun z => z r.2.2.2.1), if_pos (by rw [r.2.2.1.2.2.1, hk]; rfl)]
theorem end_mid {B : Nat → Nat} {L u o p lv : Nat} {N : Mem} {C : List (Nat × Nat)} (r : RE B L u o N p lv C) (hk : tkK B L p ≠ 0) : ∃ N', FX12_endText u N = some (sI (sI N' u 20 0) u 13 0) ∧ PF u N N' ∧ Bad u N' (tkS B L p) := by
  obtain ⟨N', e, e1, e2⟩ := must_re r 0
  have e2 : Bad u N' (tkS B L p) := by
    rcases e2 with ⟨z, _⟩ | ⟨_, z⟩
    · exact absurd rfl z
    · exact z
  have hk4 : tkK B L p ≤ 3 := by unfold tkK; split; omega; split; omega; split <;> omega
  refine ⟨N', ?_, e1, e2⟩
  unfold FX12_endText jn1
  show (if ¬ mI N u 19 = 0 then some (sI (sI N u 20 0) u 13 0) else if mI N u 16 = 0 then some (sI (sI N u 20 0) u 13 0) else (FX12_must u 0 N).bind fun M6 => some (sI (sI M6 u 20 0) u 13 0)) = _
  rw [if_neg (fun z => z r.2.2.2.1), if_neg (show ¬ mI N u 16 = 0 from fun z => hk ((nn_eq (b := 0) (by omega) (by omega)).mp (r.2.2.1.2.2.1.symm.trans z))), ob e]
theorem lawE_bad {u f : Nat} {N N' : Mem} (e : FX12_endText u N = some (sI (sI N' u 20 0) u 13 0)) (b : Bad u N' f) : lawE u N = bdM (FX12_tell u (-6) (sI (sI N' u 20 0) u 13 0)) (fun r X => some (r, X)) := by
  unfold lawE
  rw [ob e, if_neg (show ¬ mI (sI (sI N' u 20 0) u 13 0) u 19 = 0 from by rw [mI_n2 (by decide), mI_n2 (by decide), b.1]; decide)]
/-- what storing a law changes -/
def LkE (u n0 n len : Nat) (N W : Mem) : Prop := Eo (fun q => q = u ∨ q = u + 2) N W ∧ (∀ k, k ≠ 20 → k ≠ 13 → k ≠ 1 → mI W u k = mI N u k) ∧ mI W u 20 = 0 ∧ mI W u 13 = 0 ∧ mI W u 1 = 0 ∧ mI W (u + 2) 1 = Int32.ofNat (n0 + 1) ∧ mI W (u + 2) (194 + 900 * n0 + 1) = Int32.ofNat n ∧ (∀ k, k < 8 * n → mI W (u + 2) (194 + 900 * n0 + 2 + k) = mI N (u + 10) k) ∧ (∀ k, k < len → mI W (u + 2) (194 + 900 * n0 + 98 + 2 * k) = mI N (u + 11) k ∧ mI W (u + 2) (194 + 900 * n0 + 98 + 2 * k + 1) = mI N (u + 12) k) ∧ ∀ k, k ≠ 1 → (k < 194 + 900 * n0 ∨ 194 + 900 * n0 + 900 ≤ k) → mI W (u + 2) k = mI N (u + 2) k
