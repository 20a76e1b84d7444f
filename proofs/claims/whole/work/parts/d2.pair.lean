/-! ===== the fifteen fours of six ===== -/
def pa (m : Nat) : Nat := ([0, 0, 0, 0, 0, 1, 1, 1, 1, 2, 2, 2, 3, 3, 4] : List Nat).getD m 0
def pb (m : Nat) : Nat := ([1, 2, 3, 4, 5, 2, 3, 4, 5, 3, 4, 5, 4, 5, 5] : List Nat).getD m 0
def pix (a b : Nat) : Nat := a * (11 - a) / 2 + (b - a - 1)
theorem pix_t : ∀ a, a < 6 → ∀ b, b < 6 → a < b → pa (pix a b) = a ∧ pb (pix a b) = b ∧ pix a b < 15 ∧ pix a (b + 1) = pix a b + 1 := by decide
theorem pix_n : ∀ a, a < 6 → pix a 6 = pix (a + 1) (a + 2) := by decide
theorem pix_m : ∀ m, m < 15 → pa m < pb m ∧ pb m < 6 ∧ pix (pa m) (pb m) = m := by decide
def rmL (a b k : Nat) : List Nat := (List.range k).filter (fun i => !decide (i = a) && !decide (i = b))
theorem rmL_6 : ∀ a, a < 6 → ∀ b, b < 6 → a < b → (rmL a b 6).length = 4 := by decide
theorem rmL_le : ∀ a, a < 6 → ∀ b, b < 6 → a < b → ∀ k, k < 6 → !decide (k = a) && !decide (k = b) → (rmL a b k).length < 4 := by decide
theorem rmL_s {a b k : Nat} : rmL a b (k + 1) = rmL a b k ++ (if (!decide (k = a) && !decide (k = b)) = true then [k] else []) := rs_succ _ _
/-- all but two of them -/
def Qm (P : Nat → Bool) (a b : Nat) : Nat → Bool := fun c => P c && !decide (c = fC P a) && !decide (c = fC P b)
theorem cs_map {P : Nat → Bool} : cs P = (List.range (cs P).length).map (fC P) := by
  apply List.ext_getElem
  · rw [List.length_map, List.length_range]
  · intro i h1 h2
    rw [List.getElem_map, List.getElem_range]
    unfold fC
    rw [List.getD_eq_getElem?_getD, List.getElem?_eq_getElem h1]; rfl
theorem fC_inj {P : Nat → Bool} {i j : Nat} (hi : i < (cs P).length) (hj : j < (cs P).length) (e : fC P i = fC P j) : i = j := by
  rcases Nat.lt_trichotomy i j with h | h | h
  · have := fC_lt (P := P) h hj; omega
  · exact h
  · have := fC_lt (P := P) h hi; omega
theorem cs_Qm {P : Nat → Bool} {a b : Nat} (h6 : (cs P).length = 6) (ha : a < 6) (hb : b < 6) : cs (Qm P a b) = (rmL a b 6).map (fC P) := by
  have e1 : cs (Qm P a b) = (cs P).filter (fun c => !decide (c = fC P a) && !decide (c = fC P b)) := by
    unfold cs
    rw [List.filter_filter]
    refine List.filter_congr (fun c _ => ?_)
    unfold Qm
    cases P c <;> simp
  rw [e1]
  conv => lhs; rw [cs_map]
  rw [h6, List.filter_map]
  congr 1
  unfold rmL
  refine List.filter_congr (fun i hi => ?_)
  have hi := List.mem_range.mp hi
  show (!decide (fC P i = fC P a) && !decide (fC P i = fC P b)) = _
  have x : ∀ j, j < 6 → decide (fC P i = fC P j) = decide (i = j) := fun j hj => decide_eq_decide.mpr ⟨fun q => fC_inj (by omega) (by omega) q, fun q => by rw [q]⟩
  rw [x a ha, x b hb]
theorem Qm_4 {P : Nat → Bool} {a b : Nat} (h6 : (cs P).length = 6) (hab : a < b) (hb : b < 6) : (cs (Qm P a b)).length = 4 := by
  rw [cs_Qm h6 (by omega) hb, List.length_map, rmL_6 a (by omega) b hb hab]
theorem Qm_fC {P : Nat → Bool} {a b k : Nat} (h6 : (cs P).length = 6) (hab : a < b) (hb : b < 6) (hk : k < 4) : fC (Qm P a b) k = fC P ((rmL a b 6).getD k 0) := by
  have hl := rmL_6 a (by omega) b hb hab
  show (cs (Qm P a b)).getD k 0 = _
  rw [cs_Qm h6 (by omega) hb]
  simp only [List.getD_eq_getElem?_getD]
  rw [List.getElem?_map, List.getElem?_eq_getElem (by omega)]; rfl
/-- what they count -/
def cA (V : Nat → Nat) (Y : Nat) (C : Nat → Nat → Nat) (P : Nat → Bool) (m c : Nat) : Nat := amt V Y C 0 (w5 (fC (Qm P (pa m) (pb m))) c) 0
/-- the class's table of them -/
def FSr (N : Mem) (b V' : Nat) (V : Nat → Nat) (Y : Nat) (C : Nat → Nat → Nat) (P : Nat → Bool) : Prop := (∀ m, m < V' → (∀ c, c < 52 → mI N (b + 2 + m) c = if P c = true then -1 else Int32.ofNat (cA V Y C P m c)) ∧ mI N (b + 17) m = Int32.ofNat (fC P (pa m)) ∧ mI N (b + 18) m = Int32.ofNat (fC P (pb m))) ∧ Bs (mJ N b 3) P
theorem countAll_c {b f w Y : Nat} {V : Nat → Nat} {C : Nat → Nat → Nat → Nat} {P : Nat → Bool} {x : Int64} {A : Mem} (hf : f + 6 ≤ b) (hw : w + 12 ≤ f) (hW : WV A w V Y C) (hx : Bs x P) (h6 : (cs P).length = 6) : So (FX3_countAll b x f w A) (fun N => Eo (fun q => (f ≤ q ∧ q < f + 6) ∨ (b ≤ q ∧ q < b + 19)) A N ∧ FSr N b 15 V Y (C 0) P) := by
  unfold FX3_countAll
  refine So_nm ?_
  have E1 : Eo (fun q => (f ≤ q ∧ q < f + 6) ∨ (b ≤ q ∧ q < b + 19)) A (sJ A b 3 x) := Eo_sJ (Or.inr (by omega))
  have B1 : Bs (mJ (sJ A b 3 x) b 3) P := by rw [mJ_e]; exact hx
  refine So_wl3 (fun v2 v3 N => ∃ a, a ≤ 6 ∧ v3 = Int32.ofNat a ∧ v2 = Int32.ofNat (pix a (a + 1)) ∧ Eo (fun q => (f ≤ q ∧ q < f + 6) ∨ (b ≤ q ∧ q < b + 19)) A N ∧ FSr N b (pix a (a + 1)) V Y (C 0) P) (fun _ v3 _ => 6 - ix v3) ?_ fuel 0 0 (sJ A b 3 x) ⟨0, by omega, rfl, rfl, E1, fun m hm => absurd hm (by show ¬ m < 0; omega), B1⟩ (by unfold fuel; omega)
  rintro v2 v3 N rec ⟨a, ha, rfl, rfl, n1, n2⟩ hr
  by_cases z : a = 6
  · subst z
    rw [if_pos (show (6 : Int32) ≤ Int32.ofNat 6 by decide)]
    exact So.ok ⟨n1, n2⟩
  rw [if_neg (show ¬ (6 : Int32) ≤ Int32.ofNat a from nle (n := 6) (by omega) (by decide))]
  refine So_nm ?_
  rw [s1]
  have ha : a < 6 := by omega
  refine So_wl3 (fun v8 v9 N => ∃ c, a < c ∧ c ≤ 6 ∧ v9 = Int32.ofNat c ∧ v8 = Int32.ofNat (pix a c) ∧ Eo (fun q => (f ≤ q ∧ q < f + 6) ∨ (b ≤ q ∧ q < b + 19)) A N ∧ FSr N b (pix a c) V Y (C 0) P) (fun _ v9 _ => 6 - ix v9) ?_ fuel _ _ N ⟨a + 1, by omega, by omega, rfl, rfl, n1, n2⟩ (by unfold fuel; omega)
  rintro v8 v9 N rec2 ⟨c, ac, c6, rfl, rfl, m1, m2⟩ hr2
  refine So_jn0C (c = 6) (fun q => So_nm ?_) (fun j hj => ?_)
  · rw [q, pix_n a ha] at m2
    rw [q, pix_n a ha]
    exact hr _ _ _ ⟨a + 1, by omega, rfl, rfl, m1, m2⟩ (by rw [nn_ix (by omega), nn_ix (by omega)]; omega)
  by_cases z6 : c = 6
  · rw [z6, if_pos (show (6 : Int32) ≤ Int32.ofNat 6 by decide)]; exact hj z6
  have hc : c < 6 := by omega
  obtain ⟨p1, p2, p3, p4⟩ := pix_t a ha c hc ac
  generalize hm : pix a c = m at p1 p2 p3 p4 m2
  rw [if_neg (show ¬ (6 : Int32) ≤ Int32.ofNat c from nle (n := 6) hc (by decide)), if_neg (show ¬ (15 : Int32) ≤ Int32.ofNat m from nle (n := 15) p3 (by decide)), nn_ix (by omega)]
  have fa := (fC_mem (P := P) (k := a) (by omega)).1
  have fc := (fC_mem (P := P) (k := c) (by omega)).1
  refine So.bindE (v := Int32.ofNat (fC P a)) (by rw [m2.2.at (show a < 52 by omega), fC_at (by omega)]) (So_gd (inb_nn p3 (by decide)) (So_nm ?_))
  refine So.bindE (v := Int32.ofNat (fC P c)) (by rw [mJ_sI, m2.2.at (show c < 52 by omega), fC_at (by omega)]) (So_gd (inb_nn p3 (by decide)) (So_nm (So_gd (inb_nn p3 (by decide)) ?_)))
  generalize hK : sI (sI N (b + 17) m (Int32.ofNat (fC P a))) (b + 18) m (Int32.ofNat (fC P c)) = K
  have k17 : mI K (b + 17) m = Int32.ofNat (fC P a) := by rw [← hK, mI_n1 (by omega), mI_e]
  have k18 : mI K (b + 18) m = Int32.ofNat (fC P c) := by rw [← hK, mI_e]
  have kE : Eo (fun q => (f ≤ q ∧ q < f + 6) ∨ (b ≤ q ∧ q < b + 19)) A K := by rw [← hK]; exact (m1.tr (Eo_sI (Or.inr (by omega)))).tr (Eo_sI (Or.inr (by omega)))
  have kJ : mJ K b 3 = mJ N b 3 := by rw [← hK]; rfl
  rw [k17, k18]
  refine So.bindE (bit_nn fa) (So_gd (inb_nn p3 (by decide)) (So.bindE (bit_nn fc) ?_))
  have hQ : Bs (((mJ K b 3) &&& (((1 : Int64) <<< ((Int32.ofNat (fC P a)).toInt64 &&& 63)) ^^^ (-1))) &&& (((1 : Int64) <<< ((Int32.ofNat (fC P c)).toInt64 &&& 63)) ^^^ (-1))) (Qm P a c) := by
    rw [kJ]
    exact (m2.2.andnot (Bs.one fa)).andnot (Bs.one fc)
  have h4 := Qm_4 (P := P) h6 ac hc
  refine So.bind (take_c (b := f) (pl := 0) (by omega) (hW.keep (fun q a' b' => kE q (by omega))) (by decide) hQ h4) (fun K2 hK2 => ?_)
  obtain ⟨q1, q2⟩ := hK2
  have kE2 := kE.tr (q1.up (fun q hq => Or.inl hq))
  have hFS : ∀ L, (∀ q, b ≤ q → q < b + 19 → q ≠ b + 2 + m → Ea K2 L q) → FSr L b m V Y (C 0) P ∧ mI L (b + 17) m = Int32.ofNat (fC P a) ∧ mI L (b + 18) m = Int32.ofNat (fC P c) := fun L hL => by
    have e : ∀ q, b ≤ q → q < b + 19 → q ≠ b + 2 + m → Ea K L q := fun q x y w => (q1 q (by omega)).tr (hL q x y w)
    refine ⟨⟨fun i hi => ?_, ?_⟩, ?_, ?_⟩
    · obtain ⟨g1, g2, g3⟩ := m2.1 i hi
      refine ⟨fun d hd => ?_, ?_, ?_⟩
      · rw [(e (b + 2 + i) (by omega) (by omega) (by omega)).1, ← hK, mI_n1 (by omega), mI_n1 (by omega)]; exact g1 d hd
      · rw [(e (b + 17) (by omega) (by omega) (by omega)).1, ← hK, mI_n1 (by omega), mI_n2 (by omega)]; exact g2
      · rw [(e (b + 18) (by omega) (by omega) (by omega)).1, ← hK, mI_n2 (by omega), mI_n1 (by omega)]; exact g3
    · rw [(e b (by omega) (by omega) (by omega)).2.1, kJ]; exact m2.2
    · rw [(e (b + 17) (by omega) (by omega) (by omega)).1]; exact k17
    · rw [(e (b + 18) (by omega) (by omega) (by omega)).1]; exact k18
  refine loop_for 52 (by decide) (fun i L => Eo (fun q => q = b + 2 + m) K2 L ∧ ∀ d, d < i → mI L (b + 2 + m) d = if P d = true then -1 else Int32.ofNat (cA V Y (C 0) P m d)) K2 ⟨Eo.rf, fun d hd => absurd hd (by omega)⟩ (fun L rec3 hL => ?_) (fun i L rec3 hi hL hr3 => ?_)
  · refine So.ite (fun _ => So_nm (So_nm ?_)) (fun z => absurd z (ge_self 52))
    obtain ⟨g1, g2, g3⟩ := hFS L (fun q _ _ w => hL.1 q w)
    rw [s1, s1]
    refine hr2 _ _ _ ⟨c + 1, by omega, by omega, rfl, by rw [p4], kE2.tr (hL.1.up (fun q hq => Or.inr (by omega))), ?_⟩ (by rw [nn_ix (by omega), nn_ix (by omega)]; omega)
    rw [p4]
    refine ⟨fun i hi => ?_, g1.2⟩
    by_cases y : i = m
    · subst y
      rw [p1, p2]; exact ⟨hL.2, g2, g3⟩
    · exact g1.1 i (by omega)
  · refine So.ite (fun z => absurd z (nle hi (by decide))) (fun _ => So_gd (inb_nn p3 (by decide)) ?_)
    obtain ⟨g1, g2, g3⟩ := hFS L (fun q _ _ w => hL.1 q w)
    refine So.bindE (g1.2.has hi) ?_
    rw [nn_ix (show i < 2147483648 by omega), show b + 1 + 1 + 1 * m = b + 2 + m by omega]
    refine So_jn1R (fun v => v = if P i = true then -1 else Int32.ofNat (cA V Y (C 0) P m i)) (fun v hv => So_gd (inb_nn hi (by decide)) (So_nm (So_nm (hr3 _ ⟨hL.1.tr (Eo_sI rfl), fun d hd => ?_⟩)))) (fun j hj => ?_)
    · by_cases y : d = i
      · rw [y, mI_e, hv]
      · rw [mI_n2 y]; exact hL.2 d (by omega)
    · by_cases y : P i = true
      · rw [if_pos y, if_neg (by decide)]
        exact hj _ (by rw [if_pos y])
      · rw [if_neg y, if_pos rfl]
        have hWL : WV L w V Y C := hW.keep (fun q a' b' => (kE2 q (by omega)).tr (hL.1 q (by omega)))
        refine So.bindE (show FX2_part f (Int32.ofNat i) 0 L = _ from part_c (wh := 0) hWL (by decide) h4 (q2.keep (fun q a' b' => hL.1 q (by omega))) hi (by decide)) (hj _ ?_)
        rw [if_neg y]
        unfold cA
        rw [p1, p2]
