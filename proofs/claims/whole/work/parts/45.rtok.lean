/-! ===== the reference's reader: tokens asked, pile asked ===== -/
def isW (B : Nat → Nat) (L p j : Nat) : Prop := tkK B L p = 1 ∧ WL[j]? = some (tkW B L p)
def isG (B : Nat → Nat) (L p c : Nat) : Prop := tkK B L p = 3 ∧ B (tkS B L p) = c
theorem tkW_lt (B : Nat → Nat) (L p : Nat) (h : tkK B L p = 1) : allLt (tkW B L p) := by
  have h2 := h
  unfold tkK at h2
  have c1 : ¬ L ≤ tkS B L p := fun z => by rw [if_pos z] at h2; omega
  rw [if_neg c1] at h2
  have c2 : isLt (B (tkS B L p)) = true := by
    apply Classical.byContradiction
    intro z
    rw [if_neg z] at h2
    split at h2 <;> omega
  have hE : tkE B L p = scan (fun i => isLt (B i)) (L - tkS B L p) (tkS B L p) := by unfold tkE; rw [if_neg c1, if_pos c2]
  refine seg_lt (s := tkS B L p) (e := tkE B L p) (fun i h1 h2 => ?_)
  exact scan_all (fun i => isLt (B i)) (L - tkS B L p) (tkS B L p) i h1 (by rw [← hE]; exact h2)
theorem WL_lt : ∀ x ∈ WL, allLt x ∧ x.length ≤ 10 := by
  unfold allLt; decide +kernel
theorem tk3_lt {B : Nat → Nat} {L p : Nat} (h : tkK B L p ≠ 0) : tkS B L p < L := by
  unfold tkK at h
  apply Classical.byContradiction
  intro z
  rw [if_pos (by omega)] at h
  exact h rfl
theorem isWord_r {B : Nat → Nat} {L u p j : Nat} {c : Int64} {N : Mem} (hT : TkR B L u N p) (hj : j < 29) (hc : Int64.ofNat (enc (WL.getD j [])) = c) : ∃ v : Int32, FX12_isWord u c N = some v ∧ (v = 1 ∧ isW B L p j ∨ v = 0 ∧ ¬ isW B L p j) := by
  obtain ⟨h1, h2, h3, h4⟩ := hT
  have hk4 : tkK B L p ≤ 3 := by unfold tkK; split; omega; split; omega; split <;> omega
  have hgl : WL[j]? = some (WL.getD j []) := by
    have hl : j < WL.length := hj
    rw [List.getD_eq_getElem?_getD, List.getElem?_eq_getElem hl]; rfl
  have hm : WL.getD j [] ∈ WL := List.mem_of_getElem? hgl
  unfold FX12_isWord jn1 jn0; simp only []
  by_cases k1 : tkK B L p = 1
  · rw [h3, if_neg (fun z => z (by rw [k1]; rfl)), h4.1 k1]
    have hiff := wCd_iff (tkW_lt B L p k1) (WL_lt _ hm).1 (WL_lt _ hm).2
    by_cases e : tkW B L p = WL.getD j []
    · rw [if_neg (fun z => z (by rw [← hc]; exact hiff.mpr e))]
      exact ⟨1, rfl, Or.inl ⟨rfl, k1, by rw [hgl, e]⟩⟩
    · rw [if_pos (show ¬ wCd (tkW B L p) = c from fun z => e (hiff.mp (by rw [z, hc])))]
      exact ⟨0, rfl, Or.inr ⟨rfl, fun z => e (by have := z.2; rw [hgl] at this; exact (Option.some.inj this).symm)⟩⟩
  · rw [h3, if_pos (show ¬ Int32.ofNat (tkK B L p) = 1 from fun z => k1 ((nn_eq (b := 1) (by omega) (by omega)).mp z))]
    exact ⟨0, rfl, Or.inr ⟨rfl, fun z => k1 z.1⟩⟩
theorem isSign_r {B : Nat → Nat} {L u p c : Nat} {N : Mem} (hp : TpR B L u N) (hT : TkR B L u N p) (hc : c < 256) : ∃ v : Int32, FX12_isSign u (Int32.ofNat c) N = some v ∧ (v = 1 ∧ isG B L p c ∨ v = 0 ∧ ¬ isG B L p c) := by
  obtain ⟨h1, h2, h3, h4⟩ := hT
  have hk4 : tkK B L p ≤ 3 := by unfold tkK; split; omega; split; omega; split <;> omega
  unfold FX12_isSign jn1 jn0; simp only []
  by_cases k1 : tkK B L p = 3
  · rw [h3, if_neg (fun z => z (by rw [k1]; rfl)), h4.2.2 k1, i2j_nn (by omega)]
    have hb := (hp.2.2 (tkS B L p) (tk3_lt (by omega))).1
    by_cases e : B (tkS B L p) = c
    · rw [if_neg (fun z => z (by rw [e]))]
      exact ⟨1, rfl, Or.inl ⟨rfl, k1, e⟩⟩
    · rw [if_pos (fun z => e (by
        have := congrArg Int64.toInt z
        rw [jn_int (by omega), jn_int (by omega)] at this; omega))]
      exact ⟨0, rfl, Or.inr ⟨rfl, fun z => e z.2⟩⟩
  · rw [h3, if_pos (show ¬ Int32.ofNat (tkK B L p) = 3 from fun z => k1 ((nn_eq (b := 3) (by omega) (by omega)).mp z))]
    exact ⟨0, rfl, Or.inr ⟨rfl, fun z => k1 z.1⟩⟩
theorem inner_eq {u : Nat} {N : Mem} {C P : List (Nat × Nat)} (h : CP u N C P) (hl : P.length ≤ 400) : FX12_inner u N = some (P.foldl (fun a q => if q.1 < 31 then a else Int32.ofNat q.1) (-1)) := by
  apply So.eq
  unfold FX12_inner
  rw [h.2.2.1]
  refine So_wl2 (fun v j => ∃ i, i ≤ P.length ∧ j = Int32.ofNat i ∧ v = (P.take i).foldl (fun a q => if q.1 < 31 then a else Int32.ofNat q.1) (-1)) (fun _ j => P.length - ix j) ?_ fuel (-1) 0 ⟨0, by omega, rfl, rfl⟩ (by unfold fuel; omega)
  rintro v j rec ⟨i, hi, rfl, rfl⟩ hr
  by_cases c : i = P.length
  · subst c
    rw [if_pos (Int32.le_refl _), List.take_length]; exact So.ok rfl
  · rw [if_neg (nle (show i < P.length by omega) (by omega)), nn_ix (by omega)]
    have hi2 : i < P.length := by omega
    have i1 : inb (Int32.ofNat i) 400 = true := inb_nn (by omega) (by decide)
    have hc := (h.2.2.2.1 i hi2).1
    have hm := h.2.2.2.2 (P.getD i (0, 0)) (by
      rw [List.getD_eq_getElem?_getD, List.getElem?_eq_getElem hi2]; exact List.getElem_mem _)
    have ht : P.take (i + 1) = P.take i ++ [P.getD i (0, 0)] := by
      rw [List.take_succ, List.getD_eq_getElem?_getD, List.getElem?_eq_getElem hi2]; rfl
    refine So_gd i1 (So_jn1R (fun v => v = (P.take (i + 1)).foldl (fun a q => if q.1 < 31 then a else Int32.ofNat q.1) (-1)) (fun v hv => So_nm ?_) (fun j8 hj8 => ?_))
    · rw [s1]
      exact hr _ _ ⟨i + 1, by omega, rfl, hv⟩ (by rw [nn_ix (by omega), nn_ix (by omega)]; omega)
    · rw [hc]
      have e1 : (Int32.ofNat (P.getD i (0, 0)).1 < 31) ↔ (P.getD i (0, 0)).1 < 31 := nn_lt (b := 31) (by omega) (by omega)
      by_cases c31 : (P.getD i (0, 0)).1 < 31
      · rw [if_pos (e1.mpr c31)]
        refine hj8 _ ?_
        rw [ht, List.foldl_append]
        show _ = if (P.getD i (0, 0)).1 < 31 then _ else _
        rw [if_pos c31]
      · rw [if_neg (fun z => c31 (e1.mp z))]
        refine So_gd i1 (hj8 _ ?_)
        rw [ht, List.foldl_append]
        show _ = if (P.getD i (0, 0)).1 < 31 then _ else _
        rw [if_neg c31]
def cmpR : List (Nat × Nat) → Bool
  | [] => false
  | q :: Q => if 20 ≤ q.1 ∧ q.1 ≤ 24 then cmpR Q else decide (25 ≤ q.1 ∧ q.1 ≤ 27)
theorem cmpR_cons (q : Nat × Nat) (Q : List (Nat × Nat)) : cmpR (q :: Q) = if 20 ≤ q.1 ∧ q.1 ≤ 24 then cmpR Q else decide (25 ≤ q.1 ∧ q.1 ≤ 27) := rfl
theorem isCompared_eq {u : Nat} {N : Mem} {C P : List (Nat × Nat)} (h : CP u N C P) (hl : P.length ≤ 400) : FX12_isCompared u N = some (if cmpR P.reverse = true then 1 else 0) := by
  apply So.eq
  unfold FX12_isCompared
  refine So_nm ?_
  rw [h.2.2.1]
  refine So_wl1 (fun v => ∃ i : Nat, i ≤ P.length ∧ v = Int32.ofNat i - 1 ∧ cmpR (P.take i).reverse = cmpR P.reverse) (fun v => (v.toInt + 1).toNat) ?_ fuel _ ⟨P.length, by omega, rfl, by rw [List.take_length]⟩ (by rw [i_sub, nn_int (by omega), show (1 : Int32).toInt = 1 from rfl]; (unfold fuel; omega); all_goals (rw [nn_int (by omega), show (1 : Int32).toInt = 1 from rfl]; omega))
  rintro v rec ⟨i, hi, rfl, hcm⟩ hr
  cases i with
  | zero =>
    refine So_jn0 ?_
    have e : Int32.ofNat 0 - 1 < 0 := by decide
    rw [if_pos e]
    refine So_jn1 (So_jn0 ?_)
    rw [if_pos e]
    refine So_gd rfl (So.ok ?_)
    rw [← hcm]; rfl
  | succ i =>
    have e1 : Int32.ofNat (i + 1) - 1 = Int32.ofNat i := nn_sub (b := 1) (by omega) (by omega)
    rw [e1]
    have n0 : ¬ Int32.ofNat i < 0 := by rw [Int32.lt_iff_toInt_lt, nn_int (by omega), show (0 : Int32).toInt = 0 from rfl]; omega
    have i1 : inb (Int32.ofNat i) 400 = true := inb_nn (by omega) (by decide)
    have hi2 : i < P.length := by omega
    have hc := (h.2.2.2.1 i hi2).1
    have hm := h.2.2.2.2 (P.getD i (0, 0)) (by
      rw [List.getD_eq_getElem?_getD, List.getElem?_eq_getElem hi2]; exact List.getElem_mem _)
    have ht : (P.take (i + 1)).reverse = P.getD i (0, 0) :: (P.take i).reverse := by
      rw [List.take_succ, List.getD_eq_getElem?_getD, List.getElem?_eq_getElem hi2, List.reverse_append]; rfl
    rw [ht, cmpR_cons] at hcm
    have hin : ∀ l h : Nat, l < 100 → h < 100 → FX12_in ((Int32.ofNat (P.getD i (0, 0)).1).toInt64) (Int64.ofNat l) (Int64.ofNat h) = some (if l ≤ (P.getD i (0, 0)).1 ∧ (P.getD i (0, 0)).1 ≤ h then 1 else 0) := fun l h hl hh => by
      rw [in_i, nn_int (by omega), jn_int (by omega), jn_int (by omega)]
      by_cases z : l ≤ (P.getD i (0, 0)).1 ∧ (P.getD i (0, 0)).1 ≤ h
      · rw [if_pos z, if_pos (by omega)]
      · rw [if_neg z, if_neg (by omega)]
    rw [nn_ix (by omega), hc, show (25 : Int64) = Int64.ofNat 25 from rfl, show (27 : Int64) = Int64.ofNat 27 from rfl, show (20 : Int64) = Int64.ofNat 20 from rfl, show (24 : Int64) = Int64.ofNat 24 from rfl, hin 25 27 (by omega) (by omega), hin 20 24 (by omega) (by omega)]
    refine So_jn0C (¬ (20 ≤ (P.getD i (0, 0)).1 ∧ (P.getD i (0, 0)).1 ≤ 24)) (fun hn => ?_) (fun j hj => ?_)
    · refine So_jn1 (So_jn0 ?_)
      rw [if_neg n0]
      rw [if_neg hn] at hcm
      refine So_gd i1 (So.bindE rfl ?_)
      by_cases z : 25 ≤ (P.getD i (0, 0)).1 ∧ (P.getD i (0, 0)).1 ≤ 27
      · rw [if_pos z, if_neg (by decide)]
        refine So_gd rfl (So.ok ?_)
        rw [← hcm, if_pos (by simpa using z)]
      · rw [if_neg z, if_pos rfl]
        refine So_gd rfl (So.ok ?_)
        rw [← hcm, if_neg (by simpa using z)]
    · rw [if_neg n0]
      refine So_gd i1 (So.bindE rfl ?_)
      by_cases z : 20 ≤ (P.getD i (0, 0)).1 ∧ (P.getD i (0, 0)).1 ≤ 24
      · rw [if_pos z, if_neg (by decide)]
        refine So_nm (hr _ ⟨i, by omega, by rw [Int32.sub_eq_add_neg], ?_⟩ ?_)
        · rw [if_pos z] at hcm; exact hcm
        · have e2 : (Int32.ofNat i + -1).toInt = (i : Int) - 1 := by
            rw [i_add, nn_int (by omega)]; rfl
            all_goals (rw [nn_int (by omega), show (-1 : Int32).toInt = -1 from rfl]; omega)
          rw [e2, e1, nn_int (by omega)]; omega
      · rw [if_neg z, if_pos rfl]; exact hj z
