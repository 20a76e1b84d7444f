/-! ===== the class's best play ===== -/
theorem take_app {L : List Nat} {i : Nat} (h : i < L.length) : L.take (i + 1) = L.take i ++ [L.getD i 0] := by
  rw [List.take_succ_eq_append_getElem h, List.getD_eq_getElem?_getD, List.getElem?_eq_getElem h]; rfl
/-- the most so far: by the class -/
def enM : Option (Int × Nat) → Int
  | none => -1000000
  | some mx => mx.1
theorem best_c {t w n Y : Nat} {I : Nat → CI} {deal mood : Int32} : ∀ (k d : Nat) (r : Nat → Int32) (N : Nat) (A : Mem), d + k = 8 → k < N → TR A (t + 2 + 4 * d) r → GO r → WTab A w I n deal mood → mI A w 4 = r 7 → w + 12 ≤ t → (r 14 = -1 ∨ plL I n deal mood r ≠ []) → So (GX1_best N t (Int32.ofNat d) w A) (fun x => x.1.toInt = bv I n deal mood k r ∧ Eo (fun q => (d = 0 ∧ q = t) ∨ (t + 2 + 4 * (d + 1) ≤ q ∧ q < t + 38)) A x.2 ∧ (d = 0 → ∀ mx, bst (ah I n deal mood (k - 1) r) (plL I n deal mood r) = some mx → r 14 ≠ -1 → mI x.2 t 1 = Int32.ofNat mx.2)) := by
  intro k
  induction k with
  | zero =>
    intro d r N A hd hN hR hG hW h4 hw hne
    obtain ⟨N, rfl⟩ : ∃ N', N = N' + 1 := ⟨N - 1, by omega⟩
    show So (FX1_best t (Int32.ofNat d) w (GX1_best N) A) _
    unfold FX1_best
    refine So_jn0 ?_
    rw [if_neg (show ¬ Int32.ofNat d < 0 from fun q => by have := (nn_lt (b := 0) (by omega) (by omega)).mp q; omega), s1, if_pos (show (9 : Int32) ≤ Int32.ofNat (d + 1) from (nn_le (a := 9) (by omega) (by omega)).mpr (by omega))]
    exact So.ok ⟨rfl, Eo.rf, fun q => by omega⟩
  | succ k ih =>
    intro d r N A hd hN hR hG hW h4 hw hne
    obtain ⟨N, rfl⟩ : ∃ N', N = N' + 1 := ⟨N - 1, by omega⟩
    show So (FX1_best t (Int32.ofNat d) w (GX1_best N) A) _
    unfold FX1_best
    refine So_jn0 ?_
    have e10 : mI A (t + 2 + 4 * d) 10 = r 14 := hR.2.2.2.2.2.2.2.2.2.1
    have tE : t + 1 + 1 + 4 * d = t + 2 + 4 * d := by omega
    rw [if_neg (show ¬ Int32.ofNat d < 0 from fun q => by have := (nn_lt (b := 0) (by omega) (by omega)).mp q; omega), s1, if_neg (show ¬ (9 : Int32) ≤ Int32.ofNat (d + 1) from nle (n := 9) (by omega) (by decide)), nn_ix (by omega), nn_ix (by omega), tE, e10]
    refine So_gd (inb_nn (by omega) (by decide)) ?_
    by_cases z : r 14 = -1
    · rw [if_neg (fun q => q z)]
      refine So.ok ⟨?_, Eo.rf, fun _ mx _ q => absurd z q⟩
      rw [bv_s, if_pos z]; rfl
    rw [if_pos z]
    have hne := hne.resolve_left z
    obtain ⟨p, p1, p2, p3⟩ := hG.tn z
    rw [p2]
    refine So_gd (inb_nn (by omega) (by decide)) (So_gd (inb_nn (by omega) (by decide)) (So.bind (playable_c hR hG.1 p1 hW) (fun x0 hx0 => ?_)))
    rw [← p2] at hx0
    have hbl : bl x0 = plL I n deal mood r := Bs_bl hx0
    have hl4 := hG.four (I := I) (n := n) (deal := deal) (mood := mood) z
    generalize hLL : plL I n deal mood r = L at hbl hl4 hne
    have hmem : ∀ i, i < L.length → L.getD i 0 ∈ plL I n deal mood r := fun i hi => by rw [hLL]; exact getD_mem hi
    have fin : ∀ (v : Int32) (K : Mem), v.toInt = enM (bst (ah I n deal mood k r) L) → Eo (fun q => (d = 0 ∧ q = t) ∨ (t + 2 + 4 * (d + 1) ≤ q ∧ q < t + 38)) A K → (d = 0 → ∀ mx, bst (ah I n deal mood k r) L = some mx → mI K t 1 = Int32.ofNat mx.2) → So (some (v, K)) (fun x => x.1.toInt = bv I n deal mood (k + 1) r ∧ Eo (fun q => (d = 0 ∧ q = t) ∨ (t + 2 + 4 * (d + 1) ≤ q ∧ q < t + 38)) A x.2 ∧ (d = 0 → ∀ mx, bst (ah I n deal mood (k + 1 - 1) r) L = some mx → Int32.ofNat p ≠ -1 → mI x.2 t 1 = Int32.ofNat mx.2)) := fun v K hv hK hc => by
      refine So.ok ⟨?_, hK, fun q mx hm _ => hc q mx hm⟩
      show v.toInt = _
      rw [bv_s, if_neg z, hLL, hv]
      cases hb : bst (ah I n deal mood k r) L with
      | none => exact absurd ((bst_mem L).1 hb) hne
      | some mx => rfl
    refine So_wl4 (fun v14 v15 v16 K => ∃ i, i ≤ L.length ∧ v16 = Int32.ofNat i ∧ bl v14 = L.drop i ∧ v15.toInt = enM (bst (ah I n deal mood k r) (L.take i)) ∧ Eo (fun q => (d = 0 ∧ q = t) ∨ (t + 2 + 4 * (d + 1) ≤ q ∧ q < t + 38)) A K ∧ (d = 0 → ∀ mx, bst (ah I n deal mood k r) (L.take i) = some mx → mI K t 1 = Int32.ofNat mx.2)) (fun _ _ v16 _ => 7 - ix v16) ?_ fuel x0 _ 0 A ⟨0, by omega, rfl, hbl, rfl, Eo.rf, fun _ mx h => by cases h⟩ (by unfold fuel; omega)
    rintro v14 v15 v16 K rec ⟨i, hi, rfl, h14, h15, kE, kc⟩ hr
    refine So_jn0C (i = L.length) (fun q => ?_) (fun j hj => ?_)
    · rw [q, List.take_length] at h15 kc
      exact fin _ _ h15 kE kc
    rw [if_neg (show ¬ (6 : Int32) ≤ Int32.ofNat i from nle (n := 6) (by omega) (by decide))]
    by_cases y : v14 = 0
    · rw [if_pos y]
      rw [y, bl_zero] at h14
      refine hj ?_
      have := congrArg List.length h14
      rw [List.length_nil, List.length_drop] at this
      omega
    rw [if_neg y]
    have hiL : i < L.length := by
      apply Classical.byContradiction
      intro q
      exact y (bl_nil.mp (by rw [h14]; exact List.drop_eq_nil_of_le (by omega)))
    rw [drop_cons hiL] at h14
    have hc := hmem i hiL
    refine So.bindE (v := Int32.ofNat (L.getD i 0)) (by rw [lowest_eq, h14]; rfl) (So_nm ?_)
    generalize hcc : L.getD i 0 = c at h14 hc
    have hpt := hG.pt z hc
    obtain ⟨g1, g2, g3, g4, g5, g6⟩ := hG.next z hc
    have hRK : TR K (t + 2 + 4 * d) r := hR.keep (kE _ (by omega)) (kE _ (by omega)) (kE _ (by omega)) (kE _ (by omega))
    have tE2 : t + 1 + 1 + 4 * (d + 1) = t + 2 + 4 * (d + 1) := by omega
    rw [tE2]
    refine So.bind (copyT (b := t + 2 + 4 * (d + 1)) (p := t + 2 + 4 * d) (by omega) hRK) (fun M24 h24 => ?_)
    obtain ⟨c1, c2⟩ := h24
    have kE2 := kE.tr (c2.up (fun q hq => Or.inr (by omega)))
    refine So_bdM (putDown_c (w := w) c1 hG.1 hpt (hW.keep (fun q a b => kE2 q (by omega))) (by rw [(kE2 w (by omega)).1]; exact h4) (by omega)) (fun gv M25 h25 => ?_)
    obtain ⟨d1, d2, d3⟩ := h25
    have d1 : Eo (fun q => t + 2 + 4 * (d + 1) ≤ q ∧ q < t + 2 + 4 * (d + 1) + 4) M24 M25 := d1
    have d2 : gv = (plN I n deal mood r c).1 := d2
    have d3 : TR M25 (t + 2 + 4 * (d + 1)) (plN I n deal mood r c).2 := d3
    have kE3 := kE2.tr (d1.up (fun q hq => Or.inr (by omega)))
    refine So_bdM (ih (d + 1) (plN I n deal mood r c).2 N M25 (by omega) (by omega) d3 g1 (hW.keep (fun q a b => kE3 q (by omega))) (by rw [(kE3 w (by omega)).1, h4, g3 7 (by omega)]) hw g6) (fun rv M27 h27 => ?_)
    obtain ⟨f1, f2, _⟩ := h27
    have f1 : rv.toInt = bv I n deal mood k (plN I n deal mood r c).2 := f1
    have f2 : Eo (fun q => (d + 1 = 0 ∧ q = t) ∨ (t + 2 + 4 * (d + 1 + 1) ≤ q ∧ q < t + 38)) M25 M27 := f2
    have kE4 := kE3.tr (f2.up (fun q hq => Or.inr (by omega)))
    have kt : mI M27 t 1 = mI K t 1 := by rw [(f2 t (by omega)).1, (d1 t (by omega)).1, (c2 t (by omega)).1]
    have x10 : mI M27 (t + 2 + 4 * (d + 1)) 10 = (plN I n deal mood r c).2 14 := by
      rw [(f2 (t + 2 + 4 * (d + 1)) (by omega)).1]; exact d3.2.2.2.2.2.2.2.2.2.1
    have y10 : mI M27 (t + 2 + 4 * d) 10 = r 14 := by
      rw [(kE4 (t + 2 + 4 * d) (by omega)).1]; exact e10
    rw [x10, y10]
    have hbv := bv_rg (I := I) (n := n) (deal := deal) (mood := mood) k _ g1
    have hk8 : k < 8 := by omega
    refine So_jn1R (fun v => gv.toInt + v.toInt = ah I n deal mood k r c ∧ -2147483647 ≤ v.toInt) (fun v29 h29 => So_nm ?_) (fun j30 hj30 => ?_)
    · have har := ah_rg (I := I) (n := n) (deal := deal) (mood := mood) (k := k) hG z hc
      have hs : (gv + v29).toInt = ah I n deal mood k r c := by
        rw [i_add] <;> rw [h29.1] <;> omega
      have hb : bst (ah I n deal mood k r) (L.take (i + 1)) = bstep (ah I n deal mood k r) (bst (ah I n deal mood k r) (L.take i)) c := by
        rw [take_app hiL, bst_app, hcc]
      refine So_jn2R (fun v X => v.toInt = enM (bst (ah I n deal mood k r) (L.take (i + 1))) ∧ Eo (fun q => (d = 0 ∧ q = t) ∨ (t + 2 + 4 * (d + 1) ≤ q ∧ q < t + 38)) A X ∧ (d = 0 → ∀ mx, bst (ah I n deal mood k r) (L.take (i + 1)) = some mx → mI X t 1 = Int32.ofNat mx.2)) (fun v X hX => So_nm ?_) (fun j35 hj35 => ?_)
      · rw [s1]
        exact hr _ _ _ _ ⟨i + 1, by omega, rfl, by rw [clear_eq, h14]; rfl, hX⟩ (by rw [nn_ix (by omega), nn_ix (by omega)]; omega)
      · have lei : (gv + v29 ≤ v15) ↔ ah I n deal mood k r c ≤ enM (bst (ah I n deal mood k r) (L.take i)) := by
          rw [Int32.le_iff_toInt_le, hs, h15]
        have key : (ah I n deal mood k r c ≤ enM (bst (ah I n deal mood k r) (L.take i)) → bst (ah I n deal mood k r) (L.take (i + 1)) = bst (ah I n deal mood k r) (L.take i)) ∧ (¬ ah I n deal mood k r c ≤ enM (bst (ah I n deal mood k r) (L.take i)) → bst (ah I n deal mood k r) (L.take (i + 1)) = some (ah I n deal mood k r c, c)) := by
          rw [hb]
          cases ho : bst (ah I n deal mood k r) (L.take i) with
          | none =>
            refine ⟨fun q => ?_, fun _ => rfl⟩
            have q : ah I n deal mood k r c ≤ -1000000 := q
            omega
          | some mx =>
            refine ⟨fun q => ?_, fun q => ?_⟩
            · have q : ah I n deal mood k r c ≤ mx.1 := q
              exact if_neg (by omega)
            · have q : ¬ ah I n deal mood k r c ≤ mx.1 := q
              exact if_pos (by omega)
        refine So.ite (fun q => hj35 _ _ ?_) (fun q => ?_)
        · have e := key.1 (lei.mp q)
          rw [e]
          exact ⟨h15, kE4, fun q mx hm => by rw [kt]; exact kc q mx hm⟩
        · have e := key.2 (fun w => q (lei.mpr w))
          have e0 : (Int32.ofNat d = 0) ↔ d = 0 := nn_eq (b := 0) (by omega) (by omega)
          refine So.ite (fun q0 => hj35 _ _ ?_) (fun q0 => So_nm (hj35 _ _ ?_))
          · rw [e]
            exact ⟨hs, kE4, fun q => absurd (e0.mpr q) q0⟩
          · rw [e]
            refine ⟨hs, kE4.tr (Eo_sI (Or.inl ⟨e0.mp (Classical.not_not.mp q0), rfl⟩)), fun _ mx hm => ?_⟩
            have := Option.some.inj hm
            rw [mI_e, ← this]
    · have hrv : -(6000 * (k : Int)) ≤ rv.toInt ∧ rv.toInt ≤ 6000 * (k : Int) := by rw [f1]; exact hbv
      refine So.ite (fun q => hj30 _ ?_) (fun q => hj30 _ ?_)
      · rw [i_neg (by omega)]
        refine ⟨?_, by omega⟩
        unfold ah
        rw [if_neg q, d2, f1]
      · refine ⟨?_, by omega⟩
        unfold ah
        rw [if_pos (Classical.not_not.mp q), d2, f1]
