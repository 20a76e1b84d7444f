/-! ===== the whole of work ===== -/
def wk1 (op a : Int32) (tl : Int32 → Int32) (p : Int32) (s : List Int64) : Option (Int32 × List Int64) :=
  if op = 0 then some (p + 2, psh a.toInt64 s)
  else if op = 1 then some (p + 2, psh (tl a).toInt64 s)
  else if op = 10 then some (p + 2, psh (1 - top s) s.tail)
  else if op = 11 ∨ op = 12 then (if (decide (top s = 0)) = (decide (op = 12)) then some (p + 2, s.tail) else some (a, psh (top s) s.tail))
  else (jnP op s).map (fun s' => (p + 2, s'))
def wkP (sz : Nat) (cd : Nat → Int32) (tl : Int32 → Int32) (hi : Int32) : Nat → Int32 → List Int64 → Option Int64
  | 0, _, s => some (top s)
  | n + 1, p, s => if p < 0 ∨ hi ≤ p ∨ Int32.ofNat sz ≤ p + 1 then some (top s) else match wk1 (cd (ix p)) (cd (ix (p + 1))) tl p s with
    | none => none
    | some q => wkP sz cd tl hi n q.1 q.2
def tlD (g : Nat → Int32) (w : Int32) : Int32 := if 0 ≤ w.toInt ∧ w.toInt < 19 then g (ix w) else -1
theorem told7 (t : Nat) (w : Int32) (M : Mem) : FX7_told t w M = some (tlD (mI M (t + 1)) w) := by
  unfold FX7_told tlD jn1 jn0
  by_cases h0 : w < 0
  · rw [if_pos h0, if_neg (by rw [Int32.lt_iff_toInt_lt, show (0 : Int32).toInt = 0 from rfl] at h0; omega)]
  · rw [if_neg h0]
    rw [Int32.lt_iff_toInt_lt, show (0 : Int32).toInt = 0 from rfl] at h0
    by_cases h1 : (19 : Int32) ≤ w
    · rw [if_pos h1]; rw [Int32.le_iff_toInt_le, show (19 : Int32).toInt = 19 from rfl] at h1; rw [if_neg (by omega)]
    · rw [if_neg h1]; rw [Int32.le_iff_toInt_le, show (19 : Int32).toInt = 19 from rfl] at h1; rw [if_pos (by omega)]
      unfold gd; rw [if_pos (inb_iff.mpr (by omega))]
theorem work7 {t c : Nat} {lo hi : Int32} {M : Mem} (hc : c + 1 ≠ t ∧ c + 1 ≠ t + 2) (hz : mN M (c + 1) < 2147483647) (hop : ∀ k, k < mN M (c + 1) → 0 ≤ (mI M (c + 1) k).toInt) : So (FX7_work t c lo hi M) (fun r => WkE t (sI M t 5 (mI r.2 t 5)) r.2 ∧ match wkP (mN M (c + 1)) (mI M (c + 1)) (tlD (mI M (t + 1))) hi 400 lo [] with | none => r.1 = 0 | some v => r.1 = 1 ∧ mI r.2 t 5 = v.toInt32) := by
  unfold FX7_work
  refine So_nm ?_
  refine So_wl3 (fun p k N => ∃ i : Nat, ∃ s, i ≤ 400 ∧ k = Int32.ofNat i ∧ StR N t s ∧ WkE t M N ∧ wkP (mN M (c + 1)) (mI M (c + 1)) (tlD (mI M (t + 1))) hi 400 lo [] = wkP (mN M (c + 1)) (mI M (c + 1)) (tlD (mI M (t + 1))) hi (400 - i) p s) (fun _ k _ => 400 - ix k) ?_ fuel lo 0 _ ⟨0, [], by omega, rfl, ⟨by decide, by rw [mI_sI, if_pos ⟨rfl, rfl⟩]; rfl, fun i hi => absurd hi (by simp)⟩, WkE_h 0, rfl⟩ (by decide)
  rintro p k N rec ⟨i, s, hi4, rfl, hS, hW, he⟩ hr
  rw [he]
  have fin : wkP (mN M (c + 1)) (mI M (c + 1)) (tlD (mI M (t + 1))) hi (400 - i) p s = some (top s) → So (bdM (FX7_pop t N) fun r10 M9 => nm (sI M9 t 5 (r10.toInt32)) fun M11 => some (1, M11)) (fun r : Int32 × Mem => WkE t (sI M t 5 (mI r.2 t 5)) r.2 ∧ match wkP (mN M (c + 1)) (mI M (c + 1)) (tlD (mI M (t + 1))) hi (400 - i) p s with | none => r.1 = 0 | some v => r.1 = 1 ∧ mI r.2 t 5 = v.toInt32) := by
    intro hv
    rw [hv]
    refine So_bdM (pop7 hS) (fun r K hK => So_nm (So.ok ⟨?_, rfl, ?_⟩))
    · have hWK := hW.tr hK.2.2
      obtain ⟨w1, w2, w3, w4, w5, w6, w7, w8⟩ := hWK
      refine ⟨fun a ha => ?_, fun k hk => ?_, ?_, ?_, ?_, ?_, ?_, ?_⟩
      · have ha2 : a ≠ t := fun q => ha (Or.inl q)
        obtain ⟨x1, x2, x3, x4⟩ := w1 a ha
        refine ⟨?_, x2, x3, x4⟩
        funext k; rw [mI_sI, if_neg (fun q => ha2 q.1), mI_sI, if_neg (fun q => ha2 q.1), x1]
      · by_cases h5 : k = 5
        · subst h5; rw [mI_sI, if_pos ⟨rfl, rfl⟩, mI_sI, if_pos ⟨rfl, rfl⟩]
        · rw [mI_sI, if_neg (fun q => h5 q.2), mI_sI, if_neg (fun q => h5 q.2)]; exact w2 k hk
      · exact w3
      · exact w4
      · exact w5
      · funext k; rw [mI_sI, if_neg (by omega), mI_sI, if_neg (by omega), w6]
      · exact w7
      · exact w8
    · rw [mI_sI, if_pos ⟨rfl, rfl⟩, hK.1]
  have stop : i < 400 → (p < 0 ∨ hi ≤ p ∨ Int32.ofNat (mN M (c + 1)) ≤ p + 1) → wkP (mN M (c + 1)) (mI M (c + 1)) (tlD (mI M (t + 1))) hi (400 - i) p s = some (top s) := by
    intro h4 hs
    rw [show 400 - i = (399 - i) + 1 by omega]
    unfold wkP; rw [if_pos hs]
  have hNc : mN N (c + 1) = mN M (c + 1) := (hW.1 _ (by omega)).2.2.2
  have hIc : mI N (c + 1) = mI M (c + 1) := (hW.1 _ (by omega)).1
  refine So_jn0 ?_
  by_cases h4 : i < 400
  · rw [if_neg (show ¬ (400 : Int32) ≤ Int32.ofNat i from nle (n := 400) h4 (by decide)), hNc, hIc]
    by_cases c1 : p < 0
    · rw [if_pos c1]; exact fin (stop h4 (Or.inl c1))
    rw [if_neg c1]
    by_cases c2 : hi ≤ p
    · rw [if_pos c2]; exact fin (stop h4 (Or.inr (Or.inl c2)))
    rw [if_neg c2]
    by_cases c3 : Int32.ofNat (mN M (c + 1)) ≤ p + 1
    · rw [if_pos c3]; exact fin (stop h4 (Or.inr (Or.inr c3)))
    rw [if_neg c3]
    sorry
  · obtain rfl : i = 400 := by omega
    rw [if_pos (by decide)]; exact fin rfl
