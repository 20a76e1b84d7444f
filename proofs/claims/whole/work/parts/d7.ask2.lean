/-! ===== ask ===== -/
def spF (P : Nat → Bool) (g : Nat → Nat) : Nat → Option Nat
  | 0 => none
  | i + 1 => if P i = true then spF P g i else (match spF P g i with
    | none => some i
    | some s => if g s ≤ g i then some s else some i)
theorem spF_in {P : Nat → Bool} {g : Nat → Nat} : ∀ i, (spF P g i = none → ∀ c, c < i → P c = true) ∧ ∀ s, spF P g i = some s → s < i ∧ P s = false
  | 0 => ⟨fun _ c hc => absurd hc (by omega), fun s hs => by cases hs⟩
  | i + 1 => by
    obtain ⟨h1, h2⟩ := spF_in (P := P) (g := g) i
    show ((if P i = true then spF P g i else _) = none → _) ∧ ∀ s, (if P i = true then spF P g i else _) = some s → _
    by_cases z : P i = true
    · rw [if_pos z]
      refine ⟨fun q c hc => ?_, fun s hs => ?_⟩
      · by_cases y : c = i
        · rw [y]; exact z
        · exact h1 q c (by omega)
      · have := h2 s hs; exact ⟨by omega, this.2⟩
    · rw [if_neg z]
      have z' : P i = false := by simpa using z
      cases hs : spF P g i with
      | none =>
        refine ⟨fun q => (by cases q), fun s q => ?_⟩
        have : i = s := Option.some.inj q
        subst this; exact ⟨by omega, z'⟩
      | some s0 =>
        have h3 := h2 s0 hs
        by_cases y : g s0 ≤ g i
        · simp only [if_pos y]
          refine ⟨fun q => (by cases q), fun s q => ?_⟩
          have : s0 = s := Option.some.inj q
          subst this; exact ⟨by omega, h3.2⟩
        · simp only [if_neg y]
          refine ⟨fun q => (by cases q), fun s q => ?_⟩
          have : i = s := Option.some.inj q
          subst this; exact ⟨by omega, z'⟩
def en1 : Option Nat → Int32
  | none => -1
  | some s => Int32.ofNat s
def en2 (g : Nat → Nat) (far : Int32) : Option Nat → Int32
  | none => far
  | some s => Int32.ofNat (g s)
/-- one step, with anything far away -/
theorem spF_step {P : Nat → Bool} {g : Nat → Nat} {far : Int32} {i : Nat} (hg : ∀ s, g s ≤ 15) (hf : 16 ≤ far.toInt) (hP : P i = false) : (en2 g far (spF P g i) ≤ Int32.ofNat (g i) → spF P g (i + 1) = spF P g i) ∧ (¬ en2 g far (spF P g i) ≤ Int32.ofNat (g i) → spF P g (i + 1) = some i) := by
  have e : spF P g (i + 1) = (match spF P g i with
    | none => some i
    | some s => if g s ≤ g i then some s else some i) := by
    show (if P i = true then _ else _) = _
    rw [if_neg (by rw [hP]; decide)]
  rw [e]
  have gi := hg i
  cases hs : spF P g i with
  | none =>
    refine ⟨fun q => ?_, fun _ => rfl⟩
    have q : far ≤ Int32.ofNat (g i) := q
    rw [Int32.le_iff_toInt_le, nn_int (by omega)] at q
    omega
  | some s =>
    have gs := hg s
    have el : (Int32.ofNat (g s) ≤ Int32.ofNat (g i)) ↔ g s ≤ g i := nn_le (by omega) (by omega)
    exact ⟨fun q => if_pos (el.mp q), fun q => if_neg (fun w => q (el.mpr w))⟩
theorem spF_held {P : Nat → Bool} {g : Nat → Nat} {i : Nat} (hP : P i = true) : spF P g (i + 1) = spF P g i := by
  show (if P i = true then _ else _) = _
  rw [if_pos hP]
theorem sharpest_c {b Y : Nat} {x : Int32} {V : Nat → Nat} {C : Nat → Nat → Nat} {P : Nat → Bool} {g : Nat → Nat} {N : Mem} (h : FSr N b 15 V Y C P) (hC : ∀ k i, C k i ≤ 99) (hg : ∀ c, g c = mx (cAl (tb x) (fun m => cA V Y C P m c)) 15) : FX3_sharpest b x N = some (en1 (spF P g 52)) := by
  apply So.eq
  have g15 : ∀ s, g s ≤ 15 := fun s => by rw [hg]; exact mx_le (fun i _ => cAl_le i)
  unfold FX3_sharpest
  refine So_wl3 (fun v1 v2 v3 => ∃ i, i ≤ 52 ∧ v3 = Int32.ofNat i ∧ v1 = en1 (spF P g i) ∧ v2 = en2 g 16 (spF P g i)) (fun _ _ v3 => 52 - ix v3) ?_ fuel (-1) 16 0 ⟨0, by omega, rfl, rfl, rfl⟩ (by unfold fuel; omega)
  rintro v1 v2 v3 rec ⟨i, hi, rfl, rfl, rfl⟩ hr
  by_cases z : i = 52
  · subst z
    rw [if_pos (show (52 : Int32) ≤ Int32.ofNat 52 by decide)]
    exact So.ok rfl
  rw [if_neg (show ¬ (52 : Int32) ≤ Int32.ofNat i from nle (n := 52) (by omega) (by decide))]
  refine So.bindE (h.2.has (show i < 52 by omega)) ?_
  refine So_jn1R (fun v => (P i = true ∧ v = en2 g 16 (spF P g i)) ∨ (P i = false ∧ v = Int32.ofNat (g i))) (fun v hv => So_jn2R (fun a c => a = en1 (spF P g (i + 1)) ∧ c = en2 g 16 (spF P g (i + 1))) (fun a c hac => So_nm ?_) (fun j hj => ?_)) (fun j hj => ?_)
  · rw [s1]
    exact hr _ _ _ ⟨i + 1, by omega, rfl, hac.1, hac.2⟩ (by rw [nn_ix (by omega), nn_ix (by omega)]; omega)
  · rcases hv with ⟨p, rfl⟩ | ⟨p, rfl⟩
    · rw [if_pos (Int32.le_refl _)]
      exact hj _ _ (by rw [spF_held p]; exact ⟨rfl, rfl⟩)
    · obtain ⟨k1, k2⟩ := spF_step (far := 16) g15 (by decide) p
      refine So.ite (fun q => hj _ _ (by rw [k1 q]; exact ⟨rfl, rfl⟩)) (fun q => hj _ _ (by rw [k2 q]; exact ⟨rfl, rfl⟩))
  · by_cases y : P i = true
    · rw [if_pos y, if_neg (by decide)]
      exact hj _ (Or.inl ⟨y, rfl⟩)
    · rw [if_neg y, if_pos rfl]
      rw [Bool.not_eq_true] at y
      refine So.bindE (mostAlike_c h hC (show i < 52 by omega) y) (hj _ (Or.inr ⟨y, ?_⟩))
      rw [mx_al, hg]
theorem st_ask : St_ask Inv := by
  rintro t u T M p1 ⟨Λ, h⟩
  have hu := h.1
  obtain ⟨a1, a2, a3⟩ := h.held
  have e6 : (Int32.ofNat (cs (hP (mI M (u + 2)))).length = 6) ↔ (cs (hP (mI M (u + 2)))).length = 6 := nn_eq (b := 6) (by omega) (by omega)
  have no : FX11_ask t p1 M = some (-1, M) → FX12_ask u p1 M = some (-1, sI M u 0 0) → ∃ v M1 M2, FX11_ask t p1 M = some (v, M1) ∧ FX12_ask u p1 M1 = some (v, M2) ∧ Inv t u T M2 := fun x y => ⟨-1, M, sI M u 0 0, x, y, Λ, h.u0 0⟩
  have i1 : FX12_in p1.toInt64 0 1 = some (if 0 ≤ p1.toInt ∧ p1.toInt ≤ 1 then 1 else 0) := in_i p1 0 1
  by_cases c1 : 0 ≤ p1.toInt ∧ p1.toInt ≤ 1
  rotate_left
  · refine no ?_ ?_
    · unfold FX11_ask
      rw [jb]
      by_cases x : p1.toInt < 0
      · rw [if_pos (p_lt0.mpr x)]
      · rw [if_neg (fun q => x (p_lt0.mp q)), if_pos (p_gt.mpr (show (1 : Int32).toInt < _ by rw [show (1 : Int32).toInt = 1 from rfl]; omega))]
    · unfold FX12_ask
      rw [nmb, ob (heldM u0_row a2), jb, ob i1, if_neg c1]
      split <;> rfl
  have x1 : ¬ p1 < 0 := fun q => by have := p_lt0.mp q; omega
  have x1' : ¬ 1 < p1 := fun q => by have := p_gt.mp q; rw [show (1 : Int32).toInt = 1 from rfl] at this; omega
  by_cases h6 : (cs (hP (mI M (u + 2)))).length = 6
  rotate_left
  · refine no ?_ ?_
    · unfold FX11_ask
      rw [jb, if_neg x1, if_neg x1', ob a1.count, if_neg (fun q => h6 (e6.mp q))]
    · unfold FX12_ask
      rw [nmb, ob (heldM u0_row a2), jb, if_pos (fun q => h6 (e6.mp q))]
  obtain ⟨V, Y, C, N, K0, K1, K2, s1', s2, s3, s4, s5, s6, s7, y1, y2, hV, hC, _⟩ := set6 h h6
  have r3 : mI (sI N u 0 0) (u + 2) = mI M (u + 2) := u0_row.trans s3
  rw [r3] at y1
  obtain ⟨n, o1, o2⟩ := s2.seenOk
  rw [s3] at o1 o2
  obtain ⟨⟨v, L⟩, r1, r2, r4⟩ := thatCanBe_r s5 s6 s7 h6 hV (hC 0) r3 rfl y1 y2 o1
  have r2 : S6 u V (C 0) _ (sI N u 0 0) L := r2
  have r4 : v = _ := r4
  have hl : FX3_likely (t + 209) (t + 1) N = some v := by rw [likely_c s4 (hC 0) o2 o1, r4]
  generalize hQ : hP (mI M (u + 2)) = P at *
  have hS : ∀ K, S7 u V (C 0) P (sI N u 0 0) K → InvL Λ t u T K := fun K hK => by
    have hT := h.2.1
    have e := hK.1
    refine (s2.u0 0).same (fun q hq => e.1 q (by unfold Used at hq; omega)) (fun k _ => by rw [(e.1 t (by omega)).1]) (fun k _ => by rw [(e.1 (t + 171) (by omega)).1]) (fun k hk => e.2 k (fun z => by rw [z] at hk; exact absurd hk (by decide)) (fun z => by rw [z] at hk; exact absurd hk (by decide))) (Nat.le_refl _)
  by_cases v0 : v = 0
  · refine ⟨-1, N, L, ?_, ?_, Λ, hS L r2.s7⟩
    · unfold FX11_ask
      rw [jb, if_neg x1, if_neg x1', ob a1.count, if_pos (e6.mpr h6), ob s1', ob hl, if_neg (fun q => q v0)]
    · unfold FX12_ask
      rw [nmb, ob (heldM r3 a2), jb, hQ, if_neg (fun q => q (e6.mpr h6)), ob i1, if_pos c1, if_pos (by decide), bo r1]
      show (jn0 _ fun j14 => if (52 : Int32) ≤ 0 then j14 else if v = 0 then j14 else _) = _
      rw [jb, if_neg (by decide), if_pos v0]; rfl
  generalize hG : (fun c => mx (cAl (tb v) (fun m => cA V Y (C 0) P m c)) 15) = g
  have eg : ∀ c, g c = mx (cAl (tb v) (fun m => cA V Y (C 0) P m c)) 15 := fun c => by rw [← hG]
  have g15 : ∀ s, g s ≤ 15 := fun s => by rw [eg]; exact mx_le (fun i _ => cAl_le i)
  obtain ⟨f1, f2⟩ := spF_in (P := P) (g := g) 52
  obtain ⟨s, hs⟩ : ∃ s, spF P g 52 = some s := by
    cases q : spF P g 52 with
    | some s => exact ⟨s, rfl⟩
    | none =>
      have hall := f1 q
      have : cs P = List.range 52 := by
        unfold cs
        exact List.filter_eq_self.mpr (fun c hc => hall c (List.mem_range.mp hc))
      rw [this, List.length_range] at h6
      omega
  obtain ⟨s52, hPs⟩ := f2 s hs
  have run : So (FX12_ask u p1 N) (fun r => r.1 = (if ¬ p1 = 0 then Int32.ofNat (g s) else Int32.ofNat s) ∧ S7 u V (C 0) P (sI N u 0 0) r.2) := by
    unfold FX12_ask
    refine So_nm (So.bindE (heldM r3 a2) (So_jn0 ?_))
    rw [hQ, if_neg (fun q => q (e6.mpr h6)), ob i1, if_pos c1, if_pos (by decide), bo r1]
    refine So_wl4 (fun v8 v9 v10 K => ∃ i, i ≤ 52 ∧ v10 = Int32.ofNat i ∧ v9 = en1 (spF P g i) ∧ v8 = en2 g 100000000 (spF P g i) ∧ S7 u V (C 0) P (sI N u 0 0) K) (fun _ _ v10 _ => 52 - ix v10) ?_ fuel _ _ 0 L ⟨0, by omega, rfl, rfl, rfl, r2.s7⟩ (by unfold fuel; omega)
    rintro v8 v9 v10 K rec ⟨i, hi, rfl, rfl, rfl, k1⟩ hr
    refine So_jn0C (i = 52) (fun q => ?_) (fun j14 hj14 => ?_)
    · subst q
      rw [hs]
      refine So_jn1 (So_jn0 ?_)
      rw [if_neg (show ¬ en1 (some s) = -1 from fun q => by
        have q : Int32.ofNat s = -1 := q
        have := congrArg Int32.toInt q
        rw [nn_int (by omega), show (-1 : Int32).toInt = -1 from rfl] at this; omega)]
      refine So.ite (fun q => So.ok ⟨by rw [if_pos q]; rfl, k1⟩) (fun q => So.ok ⟨by rw [if_neg q]; rfl, k1⟩)
    by_cases z : i = 52
    · rw [z, if_pos (show (52 : Int32) ≤ Int32.ofNat 52 by decide)]; exact hj14 z
    rw [if_neg (show ¬ (52 : Int32) ≤ Int32.ofNat i from nle (n := 52) (by omega) (by decide)), if_neg v0, isHeld_nn u _ (show i < 52 by omega), k1.row, r3]
    have hPi : P i = decide (mI M (u + 2) (130 + i) = 1) := by rw [← hQ]; rfl
    refine So.bindE rfl (So_jn2R (fun w X => ((P i = true ∧ w = 100000000) ∨ (P i = false ∧ w = Int32.ofNat (g i))) ∧ S7 u V (C 0) P (sI N u 0 0) X) (fun w X hX => ?_) (fun j hj => ?_))
    · have key : (en2 g 100000000 (spF P g i) ≤ w → spF P g (i + 1) = spF P g i) ∧ (¬ en2 g 100000000 (spF P g i) ≤ w → spF P g (i + 1) = some i ∧ w = Int32.ofNat (g i)) := by
        rcases hX.1 with ⟨p, rfl⟩ | ⟨p, rfl⟩
        · refine ⟨fun _ => spF_held p, fun q => absurd ?_ q⟩
          cases spF P g i with
          | none => exact Int32.le_refl _
          | some s0 =>
            show Int32.ofNat (g s0) ≤ 100000000
            rw [Int32.le_iff_toInt_le, nn_int (by have := g15 s0; omega), show (100000000 : Int32).toInt = 100000000 from rfl]
            have := g15 s0; omega
        · obtain ⟨k1, k2⟩ := spF_step (far := 100000000) g15 (by decide) p
          exact ⟨k1, fun q => ⟨k2 q, rfl⟩⟩
      refine So_jn1R (fun a => a = en1 (spF P g (i + 1))) (fun a ha => So_jn1R (fun b => b = en2 g 100000000 (spF P g (i + 1))) (fun b hb => So_nm ?_) (fun j hj => ?_)) (fun j hj => ?_)
      · rw [s1]
        exact hr _ _ _ _ ⟨i + 1, by omega, rfl, ha, hb, hX.2⟩ (by rw [nn_ix (by omega), nn_ix (by omega)]; omega)
      · exact So.ite (fun q => hj _ (by rw [key.1 q])) (fun q => hj _ (by rw [(key.2 q).1, (key.2 q).2]; rfl))
      · exact So.ite (fun q => hj _ (by rw [key.1 q])) (fun q => hj _ (by rw [(key.2 q).1]; rfl))
    · by_cases y : mI M (u + 2) (130 + i) = 1
      · rw [if_pos y, if_neg (by decide)]
        exact hj _ _ ⟨Or.inl ⟨by rw [hPi]; exact decide_eq_true y, rfl⟩, k1⟩
      · rw [if_neg y, if_pos rfl]
        refine So_bdM (mostAlike_r k1 h6 (show i < 52 by omega) hV (hC 0) (by rw [r3]; exact y1) y2) (fun w X hX => hj _ _ ⟨Or.inr ⟨by rw [hPi]; exact decide_eq_false y, ?_⟩, hX.1⟩)
        rw [eg]; exact hX.2
  obtain ⟨⟨w, X⟩, q1, q2, q3⟩ := run
  have q2 : w = _ := q2
  refine ⟨w, N, X, ?_, q1, Λ, hS X q3⟩
  unfold FX11_ask
  rw [jb, if_neg x1, if_neg x1', ob a1.count, if_pos (e6.mpr h6), ob s1', ob hl, if_pos v0, ob (sharpest_c s4 (hC 0) eg), jb1, hs, q2]
  by_cases q : p1 = 0
  · rw [if_neg (fun w => w q), if_neg (fun w => w q)]; rfl
  · rw [if_pos q, if_pos q, ob (show FX3_mostAlike (t + 209) v (en1 (some s)) N = _ from mostAlike_c s4 (hC 0) s52 hPs), mx_al, eg]
