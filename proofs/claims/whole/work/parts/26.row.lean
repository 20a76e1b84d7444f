/-! ===== the row of cards read from the tape ===== -/
def rwQ (P : Nat → Bool) (x : Nat) : Bool := decide (x < 52) && (!P x && decide ((cs P).length < 6))
def rwP (b : Nat → Nat) : Nat → Nat → Bool
  | 0 => fun _ => false
  | i + 1 => fun c => rwP b i c || (decide (c = b i) && rwQ (rwP b i) (b i))
def rwJ (b : Nat → Nat) : Nat → Nat
  | 0 => 0
  | i + 1 => rwJ b i + (if rwQ (rwP b i) (b i) = true then 0 else 1)
theorem rwJ_le (b : Nat → Nat) (i : Nat) : rwJ b i ≤ i := by
  induction i with
  | zero => exact Nat.le_refl _
  | succ i ih => unfold rwJ; split <;> omega
theorem ins_len (P : Nat → Bool) (x : Nat) (hx : P x = false) (n : Nat) : ((List.range n).filter (fun c => P c || decide (c = x))).length = ((List.range n).filter P).length + (if x < n then 1 else 0) := by
  induction n with
  | zero => rfl
  | succ n ih =>
    rw [rs_succ, rs_succ, List.length_append, List.length_append, ih]
    by_cases h : n = x
    · subst h; simp [hx]
    · by_cases h2 : x < n
      · have h3 : x < n + 1 := by omega
        simp only [h, decide_false, Bool.or_false, h2, h3, if_true]; omega
      · have h3 : ¬ x < n + 1 := by omega
        simp only [h, decide_false, Bool.or_false, h2, h3, if_false]; omega
theorem cs_ins (P : Nat → Bool) (x : Nat) (hx : P x = false) (h : x < 52) : (cs (fun c => P c || decide (c = x))).length = (cs P).length + 1 := by
  unfold cs; rw [ins_len P x hx 52, if_pos h]
theorem rwP_no (b : Nat → Nat) (i : Nat) (h : rwQ (rwP b i) (b i) = false) : rwP b (i + 1) = rwP b i := by
  funext c; show (rwP b i c || (decide (c = b i) && rwQ (rwP b i) (b i))) = _
  rw [h, Bool.and_false, Bool.or_false]
theorem rwP_yes (b : Nat → Nat) (i : Nat) (h : rwQ (rwP b i) (b i) = true) : rwP b (i + 1) = fun c => rwP b i c || decide (c = b i) := by
  funext c; show (rwP b i c || (decide (c = b i) && rwQ (rwP b i) (b i))) = _
  rw [h, Bool.and_true]
theorem cs_le (P : Nat → Bool) : (cs P).length ≤ 52 := cs_len P 52
theorem lt6 {n : Nat} (h : n < 6) : ¬ (6 : Int32) ≤ Int32.ofNat n := nle (n := 6) h (by decide)
theorem ge6 {n : Nat} (h : 6 ≤ n) (h2 : n < 2147483648) : (6 : Int32) ≤ Int32.ofNat n := (nn_le (a := 6) (by omega) h2).mpr h
theorem ge52 {n : Nat} (h : 52 ≤ n) (h2 : n < 2147483648) : (52 : Int32) ≤ Int32.ofNat n := (nn_le (a := 52) (by omega) h2).mpr h
theorem isCard_no {n : Nat} (h : 52 ≤ n) (h2 : n < 2147483648) : FX11_isCard (Int32.ofNat n) = some 0 := by
  rw [isCard_eq, nn_int h2, if_neg (by omega)]
theorem row_c {t L : Nat} {b : Nat → Nat} {M : Mem} (hL : 0 < L ∧ L ≤ 400) (h2 : mI M (t + 171) 2 = Int32.ofNat L) (hb : ∀ k, k < L → b k < 256 ∧ mI M (t + 172) k = Int32.ofNat (b k)) : So (FX11_row t M) (fun r => ∃ v, Bs v (rwP b L) ∧ r = (Int32.ofNat (cs (rwP b L)).length, sI (sI (sI (sJ M (t + 1) 5 v) t 17 (Int32.ofNat (rwJ b L))) (t + 171) 2 0) t 16 0)) := by
  unfold FX11_row
  rw [h2]
  have hne : ¬ Int32.ofNat L = 0 := by rw [show (0 : Int32) = Int32.ofNat 0 from rfl, nn_eq (by omega) (by omega)]; omega
  rw [if_pos hne]
  refine So_wl3 (fun v w x => ∃ i : Nat, i ≤ L ∧ x = Int32.ofNat i ∧ w = Int32.ofNat (rwJ b i) ∧ Bs v (rwP b i)) (fun _ _ x => 400 - ix x) ?_ fuel 0 0 0 ⟨0, by omega, rfl, rfl, Bs.zero⟩ (by decide)
  rintro v w x rec ⟨i, hi, rfl, rfl, hB⟩ hr
  have fin : i = L → So (nm (sJ M (t + 1) 5 v) fun M11 => nm (sI M11 t 17 (Int32.ofNat (rwJ b i))) fun M12 => nm (sI M12 (t + 171) 2 0) fun M14 => (FJ_Long_bitCount v).bind fun r15 => bdM (FX11_grant t r15 M14) fun r17 M16 => some (r17, M16)) (fun r => ∃ v, Bs v (rwP b L) ∧ r = (Int32.ofNat (cs (rwP b L)).length, sI (sI (sI (sJ M (t + 1) 5 v) t 17 (Int32.ofNat (rwJ b L))) (t + 171) 2 0) t 16 0)) := by
    rintro rfl
    exact So_nm (So_nm (So_nm (So.bindE hB.count (So_bdE (grant_eq _ _ _) (So.ok ⟨v, hB, rfl⟩)))))
  refine So_jn0 ?_
  refine So.ite (fun hc => fin ?_) (fun hc => So.ite (fun hc2 => fin ?_) (fun hc2 => ?_))
  · have := (nn_le (by omega) (by omega)).mp hc; omega
  · have := (nn_le (a := 400) (by omega) (by omega)).mp hc2; omega
  · have hi2 : i < L := by
      have : ¬ L ≤ i := fun q => hc ((nn_le (by omega) (by omega)).mpr q)
      omega
    refine So_gd (inb_nn (show i < 400 by omega) (by decide)) (So_nm ?_)
    rw [nn_ix (by omega)]
    obtain ⟨hb1, hb2⟩ := hb i hi2
    rw [show mI M (t + 171 + 1) i = Int32.ofNat (b i) from hb2]
    have hm : 400 - ix (Int32.ofNat (i + 1)) < 400 - ix (Int32.ofNat i) := by rw [nn_ix (by omega), nn_ix (by omega)]; omega
    have no : rwQ (rwP b i) (b i) = false → So (nm (Int32.ofNat (rwJ b i) + 1) fun v30 => nm (Int32.ofNat i + 1) fun v27 => rec v v30 v27) (fun r => ∃ v, Bs v (rwP b L) ∧ r = (Int32.ofNat (cs (rwP b L)).length, sI (sI (sI (sJ M (t + 1) 5 v) t 17 (Int32.ofNat (rwJ b L))) (t + 171) 2 0) t 16 0)) := by
      intro hQ
      refine So_nm (So_nm ?_)
      rw [s1, s1]
      refine hr _ _ _ ⟨i + 1, by omega, rfl, ?_, ?_⟩ hm
      · show _ = Int32.ofNat (rwJ b i + _); rw [hQ]; rfl
      · rw [rwP_no b i hQ]; exact hB
    by_cases h52 : b i < 52
    · refine So.bindE (isCard_nn h52) (So_jn2 (So_jn0 ?_))
      rw [if_neg (by decide)]
      refine So.bindE (hB.has h52) ?_
      by_cases hP : rwP b i (b i) = true
      · rw [if_pos hP, if_pos (by decide)]
        exact no (by unfold rwQ; rw [hP]; simp)
      · rw [if_neg hP, if_neg (by decide)]
        refine So.bindE hB.count ?_
        by_cases h6 : (cs (rwP b i)).length < 6
        · rw [if_neg (lt6 h6)]
          refine So.bindE (bit_nn h52) (So_nm (So_nm ?_))
          have hQ : rwQ (rwP b i) (b i) = true := by
            unfold rwQ; rw [Bool.eq_false_iff.mpr hP]; simp [h52, h6]
          rw [s1]
          refine hr _ _ _ ⟨i + 1, by omega, rfl, ?_, ?_⟩ hm
          · show _ = Int32.ofNat (rwJ b i + _); rw [hQ]; rfl
          · rw [rwP_yes b i hQ]; exact hB.or (Bs.one h52)
        · have := cs_le (rwP b i)
          rw [if_pos (ge6 (by omega) (by omega))]
          exact no (by unfold rwQ; simp [h6])
    · refine So.bindE (isCard_no (by omega) (by omega)) (So_jn2 (So_jn0 ?_))
      rw [if_pos rfl]
      exact no (by unfold rwQ; simp [h52])
def RowE (u : Nat) (P : Nat → Bool) (J : Nat) (M N : Mem) : Prop := Eo (fun q => q = u ∨ q = u + 2) M N ∧ (∀ c, c < 52 → mI N (u + 2) (130 + c) = if P c = true then 1 else 0) ∧ (∀ k, (k < 130 ∨ 182 ≤ k) → mI N (u + 2) k = mI M (u + 2) k) ∧ mI N u 0 = 0 ∧ mI N u 13 = 0 ∧ mI N u 11 = Int32.ofNat J ∧ (∀ k, k ≠ 0 → k ≠ 13 → k ≠ 11 → mI N u k = mI M u k) ∧ mJ N u = mJ M u ∧ mR N u = mR M u
theorem row_r {u L : Nat} {b : Nat → Nat} {M : Mem} (hL : 0 < L ∧ L ≤ 400) (h2 : mI M u 13 = Int32.ofNat L) (hb : ∀ k, k < L → b k < 256 ∧ mI M (u + 9) k = Int32.ofNat (b k)) : So (FX12_row u M) (fun r => r.1 = Int32.ofNat (cs (rwP b L)).length ∧ ∃ N, RowE u (rwP b L) (rwJ b L) M N ∧ r.2 = sI N u 1 0) := by
  unfold FX12_row
  refine So_nm (So_nm (So_nm ?_))
  rw [show mI (sI M u 0 0) u 13 = Int32.ofNat L by rw [mI_sI, if_neg (by omega), h2]]
  have hne : ¬ Int32.ofNat L = 0 := by rw [show (0 : Int32) = Int32.ofNat 0 from rfl, nn_eq (by omega) (by omega)]; omega
  rw [if_pos hne]
  refine So_nm ?_
  refine So_wl2 (fun v N => ∃ i : Nat, i ≤ 52 ∧ v = Int32.ofNat i ∧ Eo (fun q => q = u ∨ q = u + 2) M N ∧ (∀ c, c < i → mI N (u + 2) (130 + c) = 0) ∧ (∀ k, (k < 130 ∨ 182 ≤ k) → mI N (u + 2) k = mI M (u + 2) k) ∧ mI N u 0 = 0 ∧ mI N u 13 = 0 ∧ mI N u 11 = 0 ∧ (∀ k, k ≠ 0 → k ≠ 13 → k ≠ 11 → mI N u k = mI M u k) ∧ mJ N u = mJ M u ∧ mR N u = mR M u) (fun v _ => 52 - ix v) ?_ fuel 0 _ ⟨0, by omega, rfl, ?_, fun c hc => absurd hc (by omega), fun k hk => ?_, ?_, ?_, ?_, fun k h0 h1 h3 => ?_, rfl, rfl⟩ (by decide)
  rotate_left
  · exact ((Eo_sI (Or.inl rfl)).tr (Eo_sI (Or.inl rfl))).tr (Eo_sI (Or.inl rfl))
  · rw [mI_sI, if_neg (by omega), mI_sI, if_neg (by omega), mI_sI, if_neg (by omega)]
  · rw [mI_sI, if_neg (by omega), mI_sI, if_neg (by omega), mI_sI, if_pos ⟨rfl, rfl⟩]
  · rw [mI_sI, if_neg (by omega), mI_sI, if_pos ⟨rfl, rfl⟩]
  · rw [mI_sI, if_pos ⟨rfl, rfl⟩]
  · rw [mI_sI, if_neg (by omega), mI_sI, if_neg (by omega), mI_sI, if_neg (by omega)]
  rintro v N rec ⟨i, hi, rfl, hE, g1, g2, g3, g4, g5, g6, g7, g8⟩ hr
  refine So.ite (fun hc => ?_) (fun hc => ?_)
  · obtain rfl : i = 52 := by have := (nn_le (a := 52) (by omega) (by omega)).mp hc; omega
    refine So_wl3 (fun v w K => ∃ i : Nat, i ≤ L ∧ w = Int32.ofNat i ∧ v = Int32.ofNat (cs (rwP b i)).length ∧ RowE u (rwP b i) (rwJ b i) M K) (fun _ x _ => 400 - ix x) ?_ fuel 0 0 N ⟨0, by omega, rfl, rfl, hE, fun c hc => ?_, g2, g3, g4, g5, g6, g7, g8⟩ (by decide)
    rotate_left
    · rw [g1 c hc]; rfl
    rintro v w K rec2 ⟨j, hj, rfl, rfl, hR⟩ hr2
    refine So.ite (fun hc => ?_) (fun hc => ?_)
    · obtain rfl : j = L := by have := (nn_le (by omega) (by omega)).mp hc; omega
      have := cs_le (rwP b j)
      exact So_bdE (tell_pos (by rw [nn_int (by omega)]; omega)) (So.ok ⟨rfl, K, hR, rfl⟩)
    · have hj2 : j < L := by
        have : ¬ L ≤ j := fun q => hc ((nn_le (by omega) (by omega)).mpr q)
        omega
      obtain ⟨hb1, hb2⟩ := hb j hj2
      obtain ⟨r1, r2, r3, r4, r5, r6, r7, r8, r9⟩ := hR
      have hx : mI K (u + 9) j = Int32.ofNat (b j) := by rw [(r1 _ (by omega)).1]; exact hb2
      have hcl := cs_le (rwP b j)
      have hin : inb (Int32.ofNat j) 400 = true := inb_nn (show j < 400 by omega) (by decide)
      have hm : 400 - ix (Int32.ofNat (j + 1)) < 400 - ix (Int32.ofNat j) := by rw [nn_ix (by omega), nn_ix (by omega)]; omega
      refine So_gd hin (So_jn2 (So_jn0 ?_))
      rw [nn_ix (by omega), hx]
      have no : rwQ (rwP b j) (b j) = false → So (nm (sI K u 11 (mI K u 11 + 1)) fun M25 => nm (Int32.ofNat j + 1) fun v22 => rec2 (Int32.ofNat (cs (rwP b j)).length) v22 M25) (fun r => r.1 = Int32.ofNat (cs (rwP b L)).length ∧ ∃ N, RowE u (rwP b L) (rwJ b L) M N ∧ r.2 = sI N u 1 0) := by
        intro hQ
        refine So_nm (So_nm ?_)
        rw [s1, r6, s1]
        refine hr2 _ _ _ ⟨j + 1, by omega, rfl, by rw [rwP_no b j hQ], r1.tr (Eo_sI (Or.inl rfl)), fun c hc => ?_, fun k hk => ?_, ?_, ?_, ?_, fun k k0 k1 k2 => ?_, r8, r9⟩ hm
        · rw [rwP_no b j hQ, mI_sI, if_neg (by omega)]; exact r2 c hc
        · rw [mI_sI, if_neg (by omega)]; exact r3 k hk
        · rw [mI_sI, if_neg (by omega)]; exact r4
        · rw [mI_sI, if_neg (by omega)]; exact r5
        · rw [mI_sI, if_pos ⟨rfl, rfl⟩]; show _ = Int32.ofNat (rwJ b j + _); rw [hQ]; rfl
        · rw [mI_sI, if_neg (by omega)]; exact r7 k k0 k1 k2
      by_cases h52 : b j < 52
      · rw [if_neg (le52 h52)]
        by_cases h6 : (cs (rwP b j)).length < 6
        · rw [if_neg (lt6 h6)]
          refine So_gd hin (So.bindE (isHeld_nn u K h52) ?_)
          rw [r2 _ h52]
          by_cases hP : rwP b j (b j) = true
          · rw [if_pos hP, if_pos rfl, if_pos (by decide)]
            exact no (by unfold rwQ; rw [hP]; simp)
          · rw [if_neg hP, if_neg (by decide)]
            have hQ : rwQ (rwP b j) (b j) = true := by
              unfold rwQ; rw [Bool.eq_false_iff.mpr hP]; simp [h52, h6]
            have hri := row_ix 130 (b j) (by omega)
            refine So_gd hin (So_gd hri.1 (So_nm (So_nm (So_nm ?_))))
            rw [show ix (130 + Int32.ofNat (b j)) = 130 + b j from hri.2, s1, s1]
            refine hr2 _ _ _ ⟨j + 1, by omega, rfl, ?_, r1.tr (Eo_sI (Or.inr rfl)), fun c hc => ?_, fun k hk => ?_, ?_, ?_, ?_, fun k k0 k1 k2 => ?_, r8, r9⟩ hm
            · rw [rwP_yes b j hQ, cs_ins _ _ (Bool.eq_false_iff.mpr hP) h52]
            · rw [rwP_yes b j hQ, mI_sI]
              by_cases hcb : c = b j
              · rw [if_pos ⟨rfl, by omega⟩]; simp [hcb]
              · rw [if_neg (by omega), r2 c hc]; simp [hcb]
            · rw [mI_sI, if_neg (by omega)]; exact r3 k hk
            · rw [mI_sI, if_neg (by omega)]; exact r4
            · rw [mI_sI, if_neg (by omega)]; exact r5
            · rw [mI_sI, if_neg (by omega), r6]; show _ = Int32.ofNat (rwJ b j + _); rw [hQ]; rfl
            · rw [mI_sI, if_neg (by omega)]; exact r7 k k0 k1 k2
        · rw [if_pos (ge6 (by omega) (by omega))]
          exact no (by unfold rwQ; simp [h6])
      · rw [if_pos (ge52 (by omega) (by omega))]
        exact no (by unfold rwQ; simp [h52])
  · have hi2 : i < 52 := by
      have : ¬ 52 ≤ i := fun q => hc ((nn_le (a := 52) (by omega) (by omega)).mpr q)
      omega
    have hri := row_ix 130 i (by omega)
    refine So_gd hri.1 (So_nm (So_nm ?_))
    rw [show ix (130 + Int32.ofNat i) = 130 + i from hri.2, s1]
    refine hr _ _ ⟨i + 1, by omega, rfl, hE.tr (Eo_sI (Or.inr rfl)), fun c hc => ?_, fun k hk => ?_, ?_, ?_, ?_, fun k k0 k1 k2 => ?_, g7, g8⟩ (by rw [nn_ix (by omega), nn_ix (by omega)]; omega)
    · rw [mI_sI]; by_cases hci : c = i
      · rw [if_pos ⟨rfl, by omega⟩]
      · rw [if_neg (by omega)]; exact g1 c (by omega)
    · rw [mI_sI, if_neg (by omega)]; exact g2 k hk
    · rw [mI_sI, if_neg (by omega)]; exact g3
    · rw [mI_sI, if_neg (by omega)]; exact g4
    · rw [mI_sI, if_neg (by omega)]; exact g5
    · rw [mI_sI, if_neg (by omega)]; exact g6 k k0 k1 k2
