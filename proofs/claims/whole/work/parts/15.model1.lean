/-! ===== loops of the reference over the cards ===== -/
theorem s1 (i : Nat) : Int32.ofNat i + 1 = Int32.ofNat (i + 1) := nn_add i 1
theorem row_ix (k i : Nat) (h : k + i < 5594) : inb (Int32.ofNat k + Int32.ofNat i) 5594 = true ∧ ix (Int32.ofNat k + Int32.ofNat i) = k + i := by
  rw [nn_add]
  exact ⟨inb_nn h (by decide), nn_ix (by omega)⟩
theorem isHeld_nn (u : Nat) {c : Nat} (M : Mem) (h : c < 52) : FX12_isHeld u (Int32.ofNat c) M = some (if mI M (u + 2) (130 + c) = 1 then 1 else 0) := by
  have e : (130 : Int32) + Int32.ofNat c = Int32.ofNat (130 + c) := nn_add 130 c
  unfold FX12_isHeld
  rw [e, nn_ix (by omega)]
  apply So.eq
  refine So_gd (inb_nn (by omega) (by decide)) (So_jn1 ?_)
  refine So.ite (fun h => So_gd rfl (So.ok ?_)) (fun h => So_gd rfl (So.ok ?_))
  · rw [if_neg h]
  · rw [if_pos (Classical.not_not.mp h)]
theorem heldOnes_eq (u : Nat) (M : Mem) (hb : ∀ c, c < 52 → mI M (u + 2) (130 + c) = 0 ∨ mI M (u + 2) (130 + c) = 1) : FX12_heldOnes u M = some (Int32.ofNat (cs (fun c => decide (mI M (u + 2) (130 + c) = 1))).length) := by
  apply So.eq
  unfold FX12_heldOnes
  refine loop_count (fun c => decide (mI M (u + 2) (130 + c) = 1)) (fun v rec hv => ?_) (fun i v rec hi hr => ?_)
  · refine So.ite (fun _ => So.ok hv) (fun h => absurd (Int32.le_refl _) h)
  · have e : (130 : Int32) + Int32.ofNat i = Int32.ofNat (130 + i) := nn_add 130 i
    refine So.ite (fun h => absurd h (le52 hi)) (fun _ => So_gd (by rw [e]; exact inb_nn (by omega) (by decide)) (So_nm (So_nm ?_)))
    rw [e, nn_ix (by omega), s1]
    rcases hb i hi with h | h
    · rw [h] at hr ⊢; exact hr
    · rw [h] at hr ⊢; exact hr
theorem unplayed_eq (u : Nat) (p : Int32) (M : Mem) : FX12_unplayed u p M = some (Int32.ofNat (cs (fun c => decide (mI M (u + 2) (18 + c) = p ∧ mI M (u + 2) (70 + c) = 0))).length) := by
  apply So.eq
  unfold FX12_unplayed
  refine loop_count (fun c => decide (mI M (u + 2) (18 + c) = p ∧ mI M (u + 2) (70 + c) = 0)) (fun v rec hv => ?_) (fun i v rec hi hr => ?_)
  · refine So.ite (fun _ => So.ok hv) (fun h => absurd (Int32.le_refl _) h)
  · have e : (18 : Int32) + Int32.ofNat i = Int32.ofNat (18 + i) := nn_add 18 i
    have e2 : (70 : Int32) + Int32.ofNat i = Int32.ofNat (70 + i) := nn_add 70 i
    refine So.ite (fun h => absurd h (le52 hi)) (fun _ => So_gd (by rw [e]; exact inb_nn (by omega) (by decide)) (So_jn1 (So_jn0 ?_)))
    rw [e, e2, nn_ix (by omega), nn_ix (by omega)]
    refine So.ite (fun h => So_nm (So_nm ?_)) (fun h => So_gd (inb_nn (by omega) (by decide)) (So.ite (fun h2 => So_nm (So_nm ?_)) (fun h2 => So_nm (So_nm ?_))))
    · rw [show decide (mI M (u + 2) (18 + i) = p ∧ mI M (u + 2) (70 + i) = 0) = false from decide_eq_false (fun q => h q.1)] at hr
      rw [s1]; exact hr
    · rw [show decide (mI M (u + 2) (18 + i) = p ∧ mI M (u + 2) (70 + i) = 0) = false from decide_eq_false (fun q => h2 q.2)] at hr
      rw [s1]; exact hr
    · rw [show decide (mI M (u + 2) (18 + i) = p ∧ mI M (u + 2) (70 + i) = 0) = true from decide_eq_true ⟨Classical.not_not.mp h, Classical.not_not.mp h2⟩] at hr
      rw [s1]; exact hr
theorem at1_app (l : List Nat) (i k : Nat) : at1 (l ++ [i]) k = if k = l.length then Int32.ofNat i else at1 l k := by
  unfold at1
  by_cases h : k < l.length
  · rw [List.getElem?_append_left h, if_neg (by omega)]
  · rw [List.getElem?_append_right (by omega)]
    by_cases h2 : k = l.length
    · subst h2; rw [if_pos rfl, Nat.sub_self]; rfl
    · rw [if_neg h2, List.getElem?_eq_none (by simp; omega), List.getElem?_eq_none (by omega)]
theorem cardOf_eq (u : Nat) (p : Int32) (k : Nat) (hk : k < 1000) (M : Mem) : FX12_cardOf u p (Int32.ofNat k) M = some (at1 (cs (fun c => decide (mI M (u + 2) (18 + c) = p))) k) := by
  apply So.eq
  unfold FX12_cardOf
  refine So_wl3 (fun v n j => ∃ i, i ≤ 52 ∧ j = Int32.ofNat i ∧ n = Int32.ofNat ((List.range i).filter (fun c => decide (mI M (u + 2) (18 + c) = p))).length ∧ v = at1 ((List.range i).filter (fun c => decide (mI M (u + 2) (18 + c) = p))) k) (fun _ _ j => 52 - ix j) ?_ fuel (-1) 0 0 ⟨0, by omega, rfl, rfl, rfl⟩ (by rw [show (0 : Int32) = Int32.ofNat 0 from rfl, nn_ix (by omega)]; decide)
  rintro v n j rec ⟨i, hi, rfl, rfl, rfl⟩ hr
  have hl := cs_len (fun c => decide (mI M (u + 2) (18 + c) = p)) i
  refine So.ite (fun h => So.ok ?_) (fun h => ?_)
  · obtain rfl : i = 52 := by
      apply Classical.byContradiction
      intro hc
      exact le52 (by omega) h
    rfl
  · have hi2 : i < 52 := by
      apply Classical.byContradiction
      intro hc
      obtain rfl : i = 52 := by omega
      exact h (Int32.le_refl _)
    have e : (18 : Int32) + Int32.ofNat i = Int32.ofNat (18 + i) := nn_add 18 i
    refine So_gd (by rw [e]; exact inb_nn (by omega) (by decide)) (So_jn2 ?_)
    rw [e, nn_ix (by omega)]
    have hm : ∀ a b : Int32, 52 - ix (Int32.ofNat (i + 1)) < 52 - ix (Int32.ofNat i) := fun _ _ => by rw [nn_ix (by omega), nn_ix (by omega)]; omega
    refine So.ite (fun hp => So_nm ?_) (fun hp => So_jn1 ?_)
    · rw [s1]
      refine hr _ _ _ ⟨i + 1, by omega, rfl, ?_, ?_⟩ (hm 0 0)
      · rw [rs_succ, if_neg (by simpa using hp), List.append_nil]
      · rw [rs_succ, if_neg (by simpa using hp), List.append_nil]
    · have hp := Classical.not_not.mp hp
      refine So.ite (fun hk2 => So_nm (So_nm ?_)) (fun hk2 => So_nm (So_nm ?_))
      · rw [s1, s1]
        rw [nn_eq (by omega) (by omega)] at hk2
        refine hr _ _ _ ⟨i + 1, by omega, rfl, ?_, ?_⟩ (hm 0 0)
        · rw [rs_succ, if_pos (by simpa using hp), List.length_append]; rfl
        · rw [rs_succ, if_pos (by simpa using hp), at1_app, if_neg (fun q => hk2 q.symm)]
      · rw [s1, s1]
        have hk2 := Classical.not_not.mp hk2
        rw [nn_eq (by omega) (by omega)] at hk2
        refine hr _ _ _ ⟨i + 1, by omega, rfl, ?_, ?_⟩ (hm 0 0)
        · rw [rs_succ, if_pos (by simpa using hp), List.length_append]; rfl
        · rw [rs_succ, if_pos (by simpa using hp), at1_app, if_pos hk2.symm]
/-! ===== sets of cards by a property ===== -/
def Bs (x : Int64) (P : Nat → Bool) : Prop := ∀ c, bb x c = (decide (c < 52) && P c)
theorem Bs_bl {x : Int64} {P : Nat → Bool} (h : Bs x P) : bl x = cs P := by
  unfold bl cs
  rw [show 64 = 52 + 12 from rfl, List.range_add, List.filter_append]
  have f2 : ((List.range 12).map (fun j => 52 + j)).filter (bb x) = [] := List.filter_eq_nil_iff.mpr (fun i hi => by
    obtain ⟨j, _, rfl⟩ := List.mem_map.mp hi
    have : ¬ 52 + j < 52 := by omega
    rw [h]; simp [this])
  rw [f2, List.append_nil]
  apply List.filter_congr
  intro i hi
  rw [h]
  simp [List.mem_range.mp hi]
theorem Bs.has {x : Int64} {P : Nat → Bool} (h : Bs x P) {c : Nat} (hc : c < 52) : FX11_has x (Int32.ofNat c) = some (if P c = true then 1 else 0) := by
  rw [has_nn x hc, h c]
  simp [hc]
theorem Bs.count {x : Int64} {P : Nat → Bool} (h : Bs x P) : FJ_Long_bitCount x = some (Int32.ofNat (cs P).length) := by rw [bitCount_bl, Bs_bl h]
theorem Bs.low {x : Int64} {P : Nat → Bool} (h : Bs x P) : FX11_lowest x = some (at1 (cs P) 0) := by rw [lowest_eq, Bs_bl h]
theorem Bs.at {x : Int64} {P : Nat → Bool} (h : Bs x P) {k : Nat} (hk : k < 52) : FX11_cardAt x (Int32.ofNat k) = some (at1 (cs P) k) := by rw [cardAt_nn x hk, Bs_bl h]
theorem Bs.zero : Bs 0 (fun _ => false) := fun c => by rw [bb_zero]; simp
theorem Bs.congr {x : Int64} {P R : Nat → Bool} (h : Bs x P) (e : ∀ c, c < 52 → P c = R c) : Bs x R := fun c => by
  rw [h]
  by_cases hc : c < 52
  · rw [e c hc]
  · simp [hc]
theorem Bs.and {x y : Int64} {P R : Nat → Bool} (h : Bs x P) (h2 : Bs y R) : Bs (x &&& y) (fun c => P c && R c) := fun c => by
  rw [bb_and, h, h2]
  cases decide (c < 52) <;> simp
theorem Bs.andnot {x y : Int64} {P R : Nat → Bool} (h : Bs x P) (h2 : Bs y R) : Bs (x &&& (y ^^^ (-1))) (fun c => P c && !R c) := fun c => by
  rw [bb_and, bb_not, h, h2]
  by_cases hc : c < 52
  · have : c < 64 := by omega
    simp [hc, this]
  · simp [hc]
theorem Bs.or {x y : Int64} {P R : Nat → Bool} (h : Bs x P) (h2 : Bs y R) : Bs (x ||| y) (fun c => P c || R c) := fun c => by
  rw [bb_or, h, h2]
  cases decide (c < 52) <;> simp
theorem Bs.one {k : Nat} (hk : k < 52) : Bs ((1 : Int64) <<< ((Int32.ofNat k).toInt64 &&& 63)) (fun c => decide (c = k)) := fun c => by
  rw [bb_one k c (by omega)]
  by_cases h : c = k
  · subst h; simp [hk]
  · simp [h]
theorem Bs.inj {x y : Int64} {P R : Nat → Bool} (h : Bs x P) (h2 : Bs y R) (e : ∀ c, c < 52 → P c = R c) : x = y := bb_ext (fun c _ => by
  rw [h, h2]
  by_cases hc : c < 52
  · rw [e c hc]
  · simp [hc])
theorem Bs_clear {x : Int64} {P : Nat → Bool} (h : Bs x P) : bl (x &&& (x - 1)) = (cs P).tail := by rw [clear_eq, Bs_bl h]
