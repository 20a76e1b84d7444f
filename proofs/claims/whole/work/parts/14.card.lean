/-! ===== small functions of both sides ===== -/
theorem isCard_eq (p : Int32) : FX11_isCard p = some (if 0 ≤ p.toInt ∧ p.toInt < 52 then 1 else 0) := by
  show (if p < 0 then gd (isB 0) (some 0) else if 52 ≤ p then gd (isB 0) (some 0) else gd (isB 1) (some 1)) = _
  have z : (0 : Int32).toInt = 0 := rfl
  have z2 : (52 : Int32).toInt = 52 := rfl
  by_cases h1 : p < 0
  · rw [if_pos h1]
    rw [Int32.lt_iff_toInt_lt, z] at h1
    rw [if_neg (by omega)]; rfl
  · rw [if_neg h1]
    rw [Int32.lt_iff_toInt_lt, z] at h1
    by_cases h2 : 52 ≤ p
    · rw [if_pos h2]
      rw [Int32.le_iff_toInt_le, z2] at h2
      rw [if_neg (by omega)]; rfl
    · rw [if_neg h2]
      rw [Int32.le_iff_toInt_le, z2] at h2
      rw [if_pos (by omega)]; rfl
theorem isCard_nn {c : Nat} (h : c < 52) : FX11_isCard (Int32.ofNat c) = some 1 := by
  rw [isCard_eq, nn_int (by omega), if_pos (by omega)]
theorem bit_nn {c : Nat} (h : c < 52) : FX11_bit (Int32.ofNat c) = some ((1 : Int64) <<< ((Int32.ofNat c).toInt64 &&& 63)) := by
  unfold FX11_bit
  rw [isCard_nn h]; rfl
theorem has_nn (x : Int64) {c : Nat} (h : c < 52) : FX11_has x (Int32.ofNat c) = some (if bb x c = true then 1 else 0) := by
  unfold FX11_has
  rw [isCard_nn h]
  show (if (1 : Int32) = 0 then gd (isB 0) (some 0) else if ¬ ((x >>> ((Int32.ofNat c).toInt64 &&& 63)) &&& 1) = 1 then gd (isB 0) (some 0) else gd (isB 1) (some 1)) = _
  rw [if_neg (by decide)]
  have hs := bb_shr x c (by omega)
  by_cases hb : bb x c = true
  · rw [if_neg (fun q => q (hs.mpr hb)), if_pos hb]; rfl
  · rw [if_pos (fun q => hb (hs.mp q)), if_neg hb]; rfl
theorem has_no (x : Int64) {p : Int32} (h : ¬ (0 ≤ p.toInt ∧ p.toInt < 52)) : FX11_has x p = some 0 := by
  unfold FX11_has
  rw [isCard_eq, if_neg h]; rfl
theorem drop_tail {α : Type} (l : List α) (i : Nat) : (l.drop i).tail = l.drop (i + 1) := by rw [List.tail_drop]
theorem cardAt_nn (x : Int64) {p : Nat} (hp : p < 52) : FX11_cardAt x (Int32.ofNat p) = some (at1 (bl x) p) := by
  apply So.eq
  unfold FX11_cardAt
  refine So_jn0 ?_
  refine So.ite (fun h => absurd h ?_) (fun _ => So.ite (fun _ => ?_) (fun h => absurd ?_ h))
  · rw [show (0 : Int32) = Int32.ofNat 0 from rfl, nn_lt (by omega) (by omega)]; omega
  · refine So_wl2 (fun v i => ∃ k, k ≤ p ∧ i = Int32.ofNat k ∧ bl v = (bl x).drop k) (fun v i => p - ix i) ?_ fuel x 0 ⟨0, Nat.zero_le _, rfl, rfl⟩ (by rw [show (0 : Int32) = Int32.ofNat 0 from rfl, nn_ix (by omega)]; unfold fuel; omega)
    rintro v i rec ⟨k, hk, rfl, hv⟩ hr
    refine So.ite (fun h => ?_) (fun h => ?_)
    · rw [nn_le (by omega) (by omega)] at h
      obtain rfl : k = p := by omega
      refine So.bindE (lowest_eq v) (So.ok ?_)
      rw [hv]
      unfold at1
      rw [List.getElem?_drop, Nat.add_zero]
    · rw [nn_le (by omega) (by omega)] at h
      refine So_nm (So_nm ?_)
      refine hr _ _ ⟨k + 1, by omega, nn_add k 1, ?_⟩ ?_
      · rw [clear_eq, hv, drop_tail]
      · rw [show (Int32.ofNat k + 1) = Int32.ofNat (k + 1) from nn_add k 1, nn_ix (by omega), nn_ix (by omega)]; omega
  · rw [show (52 : Int32) = Int32.ofNat 52 from rfl, nn_lt (by omega) (by omega)]; exact hp
theorem isPlayer_eq (p : Int32) : FX11_isPlayer p = some (if p = 0 ∨ p = 1 then 1 else 0) := by
  show (if p = 0 then gd (isB 1) (some 1) else if ¬ p = 1 then gd (isB 0) (some 0) else gd (isB 1) (some 1)) = _
  by_cases h0 : p = 0
  · rw [if_pos h0, if_pos (Or.inl h0)]; rfl
  · rw [if_neg h0]
    by_cases h1 : p = 1
    · rw [if_neg (fun q => q h1), if_pos (Or.inr h1)]; rfl
    · rw [if_pos h1, if_neg (fun q => q.elim h0 h1)]; rfl
/-! the reference's -/
theorem j_int (p : Int32) : p.toInt64.toInt = p.toInt := Int32.toInt_toInt64 p
theorem in_eq (v l h : Int64) : FX12_in v l h = some (if l.toInt ≤ v.toInt ∧ v.toInt ≤ h.toInt then 1 else 0) := by
  show (if v < l then gd (isB 0) (some 0) else if h < v then gd (isB 0) (some 0) else gd (isB 1) (some 1)) = _
  by_cases h1 : v < l
  · rw [if_pos h1]
    rw [Int64.lt_iff_toInt_lt] at h1
    rw [if_neg (by omega)]; rfl
  · rw [if_neg h1]
    rw [Int64.lt_iff_toInt_lt] at h1
    by_cases h2 : h < v
    · rw [if_pos h2]
      rw [Int64.lt_iff_toInt_lt] at h2
      rw [if_neg (by omega)]; rfl
    · rw [if_neg h2]
      rw [Int64.lt_iff_toInt_lt] at h2
      rw [if_pos (by omega)]; rfl
theorem in_i (p : Int32) (l h : Int64) : FX12_in p.toInt64 l h = some (if l.toInt ≤ p.toInt ∧ p.toInt ≤ h.toInt then 1 else 0) := by rw [in_eq, j_int]
theorem isCardM (p : Int32) : FX12_isCard p = some (if 0 ≤ p.toInt ∧ p.toInt < 52 then 1 else 0) := by
  unfold FX12_isCard
  rw [in_i]
  have z : (0 : Int64).toInt = 0 := rfl
  have z2 : (51 : Int64).toInt = 51 := rfl
  rw [z, z2]
  by_cases h : 0 ≤ p.toInt ∧ p.toInt < 52
  · rw [if_pos h, if_pos (by omega)]; rfl
  · rw [if_neg h, if_neg (by omega)]; rfl
theorem pl_iff (p : Int32) : (0 ≤ p.toInt ∧ p.toInt ≤ 1) ↔ (p = 0 ∨ p = 1) := by
  rw [← Int32.toInt_inj, ← Int32.toInt_inj]
  have z : (0 : Int32).toInt = 0 := rfl
  have z2 : (1 : Int32).toInt = 1 := rfl
  rw [z, z2]; omega
theorem isPlayerM (p : Int32) : FX12_isPlayer p = some (if p = 0 ∨ p = 1 then 1 else 0) := by
  unfold FX12_isPlayer
  rw [in_i]
  have z : (0 : Int64).toInt = 0 := rfl
  have z2 : (1 : Int64).toInt = 1 := rfl
  rw [z, z2]
  by_cases h : p = 0 ∨ p = 1
  · rw [if_pos h, if_pos ((pl_iff p).mpr h)]; rfl
  · rw [if_neg h, if_neg (fun q => h ((pl_iff p).mp q))]; rfl
/-- cards with a property, rising -/
def cs (P : Nat → Bool) : List Nat := (List.range 52).filter P
theorem rs_succ (P : Nat → Bool) (i : Nat) : ((List.range (i + 1)).filter P) = (List.range i).filter P ++ (if P i = true then [i] else []) := by
  rw [List.range_succ, List.filter_append, List.filter_cons]; rfl
theorem cs_len (P : Nat → Bool) (i : Nat) : ((List.range i).filter P).length ≤ i := by
  have := List.length_filter_le P (List.range i)
  rwa [List.length_range] at this
/-- a loop over the cards that counts -/
theorem loop_count {τ : Type} {Q : τ → Prop} {step : Int32 → Int32 → (Int32 → Int32 → Option τ) → Option τ} (P : Nat → Bool) (h1 : ∀ v rec, v = Int32.ofNat (cs P).length → So (step v (Int32.ofNat 52) rec) Q) (h2 : ∀ (i : Nat) (v : Int32) rec, i < 52 → So (rec (v + (if P i = true then 1 else 0)) (Int32.ofNat (i + 1))) Q → So (step v (Int32.ofNat i) rec) Q) : So (wl2 step fuel 0 0) Q := by
  refine So_wl2 (fun v j => ∃ i, i ≤ 52 ∧ j = Int32.ofNat i ∧ v = Int32.ofNat ((List.range i).filter P).length) (fun _ j => 52 - ix j) ?_ fuel 0 0 ⟨0, by omega, rfl, rfl⟩ (by rw [show (0 : Int32) = Int32.ofNat 0 from rfl, nn_ix (by omega)]; decide)
  rintro v j rec ⟨i, hi, rfl, hv⟩ hr
  by_cases h : i = 52
  · subst h; exact h1 v rec hv
  · refine h2 i v rec (by omega) (hr _ _ ⟨i + 1, by omega, rfl, ?_⟩ ?_)
    · rw [rs_succ, List.length_append, hv]
      by_cases hp : P i = true
      · rw [if_pos hp, if_pos hp]; exact nn_add _ 1
      · rw [if_neg hp, if_neg hp]; exact nn_add _ 0
    · rw [nn_ix (by omega), nn_ix (by omega)]; omega
theorem le52 {i : Nat} (h : i < 52) : ¬ (52 : Int32) ≤ Int32.ofNat i := by
  rw [show (52 : Int32) = Int32.ofNat 52 from rfl, nn_le (by omega) (by omega)]; omega
theorem cardsAt_eq (u : Nat) (p : Int32) (M : Mem) : FX12_cardsAt u p M = some (Int32.ofNat (cs (fun c => decide (mI M (u + 2) (18 + c) = p))).length) := by
  apply So.eq
  unfold FX12_cardsAt
  refine loop_count (fun c => decide (mI M (u + 2) (18 + c) = p)) (fun v rec hv => ?_) (fun i v rec hi hr => ?_)
  · refine So.ite (fun _ => So.ok hv) (fun h => absurd (Int32.le_refl _) h)
  · have e : (18 : Int32) + Int32.ofNat i = Int32.ofNat (18 + i) := nn_add 18 i
    refine So.ite (fun h => absurd h (le52 hi)) (fun _ => So_gd (by rw [e]; exact inb_nn (by omega) (by decide)) (So_jn1 ?_))
    rw [e, nn_ix (by omega)]
    refine So.ite (fun h => So_nm (So_nm ?_)) (fun h => So_nm (So_nm ?_))
    · rw [show decide (mI M (u + 2) (18 + i) = p) = false from decide_eq_false h] at hr
      rw [show Int32.ofNat i + 1 = Int32.ofNat (i + 1) from nn_add i 1]; exact hr
    · rw [show decide (mI M (u + 2) (18 + i) = p) = true from decide_eq_true (Classical.not_not.mp h)] at hr
      rw [show Int32.ofNat i + 1 = Int32.ofNat (i + 1) from nn_add i 1]; exact hr
