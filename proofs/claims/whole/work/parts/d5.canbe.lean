/-! ===== which four were kept ===== -/
theorem takeFourth_r {u f : Nat} {V : Nat → Nat} {C : Nat → Nat → Nat} {P : Nat → Bool} {M0 M : Mem} (h : S6 u V C P M0 M) (h6 : (cs P).length = 6) (hf : f < 15) : So (FX12_takeFourth u (Int32.ofNat f) M) (fun N => Eo (fun q => q = u + 27) M N ∧ ∀ k, k < 4 → mI N (u + 27) k = Int32.ofNat (fC (Qm P (pa f) (pb f)) k)) := by
  unfold FX12_takeFourth
  refine So_wl3 (fun v1 v2 N => ∃ a, a ≤ 6 ∧ v2 = Int32.ofNat a ∧ v1 = Int32.ofNat (pix a (a + 1)) ∧ Eo (fun q => q = u + 27) M N ∧ (f < pix a (a + 1) → ∀ k, k < 4 → mI N (u + 27) k = Int32.ofNat (fC (Qm P (pa f) (pb f)) k))) (fun _ v2 _ => 6 - ix v2) ?_ fuel 0 0 M ⟨0, by omega, rfl, rfl, Eo.rf, fun q => absurd q (Nat.not_lt_zero _)⟩ (by unfold fuel; omega)
  rintro v1 v2 N rec ⟨a, ha, rfl, rfl, n1, n2⟩ hr
  by_cases z : a = 6
  · subst z
    rw [if_pos (show (6 : Int32) ≤ Int32.ofNat 6 by decide)]
    exact So.ok ⟨n1, n2 hf⟩
  have ha : a < 6 := by omega
  rw [if_neg (show ¬ (6 : Int32) ≤ Int32.ofNat a from nle (n := 6) ha (by decide))]
  refine So_nm ?_
  rw [s1]
  refine So_wl3 (fun v7 v8 N => ∃ c, a < c ∧ c ≤ 6 ∧ v8 = Int32.ofNat c ∧ v7 = Int32.ofNat (pix a c) ∧ Eo (fun q => q = u + 27) M N ∧ (f < pix a c → ∀ k, k < 4 → mI N (u + 27) k = Int32.ofNat (fC (Qm P (pa f) (pb f)) k))) (fun _ v8 _ => 6 - ix v8) ?_ fuel _ _ N ⟨a + 1, by omega, by omega, rfl, rfl, n1, n2⟩ (by unfold fuel; omega)
  rintro v7 v8 N rec2 ⟨c, ac, c6, rfl, rfl, m1, m2⟩ hr2
  by_cases z6 : c = 6
  · subst z6
    rw [if_pos (show (6 : Int32) ≤ Int32.ofNat 6 by decide)]
    rw [pix_n a ha] at m2 ⊢
    exact So_nm (hr _ _ _ ⟨a + 1, by omega, rfl, rfl, m1, m2⟩ (by rw [nn_ix (by omega), nn_ix (by omega)]; omega))
  have hc : c < 6 := by omega
  obtain ⟨p1, p2, p3, p4⟩ := pix_t a ha c hc ac
  rw [if_neg (show ¬ (6 : Int32) ≤ Int32.ofNat c from nle (n := 6) hc (by decide))]
  refine So_jn1R (fun L => Eo (fun q => q = u + 27) M L ∧ (f < pix a c + 1 → ∀ k, k < 4 → mI L (u + 27) k = Int32.ofNat (fC (Qm P (pa f) (pb f)) k))) (fun L hL => So_nm (So_nm ?_)) (fun j hj => ?_)
  · rw [s1, s1]
    exact hr2 _ _ _ ⟨c + 1, by omega, by omega, rfl, by rw [p4], hL.1, by rw [p4]; exact hL.2⟩ (by rw [nn_ix (by omega), nn_ix (by omega)]; omega)
  · have ef : (Int32.ofNat (pix a c) = Int32.ofNat f) ↔ pix a c = f := nn_eq (by omega) (by omega)
    refine So.ite (fun q => hj _ ⟨m1, fun x => m2 (by have : pix a c ≠ f := fun y => q (ef.mpr y); omega)⟩) (fun q => ?_)
    have q := ef.mp (Classical.not_not.mp q)
    refine So.bind (takeFour_r (h.keep (m1.up (fun q hq => by omega))) h6 ac hc) (fun L hL => hj _ ⟨m1.tr hL.1, fun _ k hk => ?_⟩)
    rw [← q, p1, p2]; exact hL.2.1 k hk
/-- all that was seen is so of a four -/
def lkn (V : Nat → Nat) (Y : Nat) (C : Nat → Nat → Nat) (P : Nat → Bool) (r : Nat → Int32) (f : Nat) : Nat → Bool
  | 0 => true
  | k + 1 => lkn V Y C P r f k && (!P (ix (r (182 + 2 * k))) && decide (cA V Y C P f (ix (r (182 + 2 * k))) = ix (r (183 + 2 * k))))
theorem lkn_s {V : Nat → Nat} {Y : Nat} {C : Nat → Nat → Nat} {P : Nat → Bool} {r : Nat → Int32} {f k : Nat} : lkn V Y C P r f (k + 1) = (lkn V Y C P r f k && (!P (ix (r (182 + 2 * k))) && decide (cA V Y C P f (ix (r (182 + 2 * k))) = ix (r (183 + 2 * k))))) := rfl
theorem lkn_no {V : Nat → Nat} {Y : Nat} {C : Nat → Nat → Nat} {P : Nat → Bool} {r : Nat → Int32} {f k : Nat} (h : lkn V Y C P r f k = false) : ∀ j, lkn V Y C P r f (k + j) = false
  | 0 => h
  | j + 1 => by rw [← Nat.add_assoc, lkn_s, lkn_no h j]; rfl
def SeenOk (r : Nat → Int32) (n : Nat) : Prop := n ≤ 6 ∧ r 0 = Int32.ofNat n ∧ ∀ k, k < n → (∃ c, c < 52 ∧ r (182 + 2 * k) = Int32.ofNat c) ∧ ∃ m, m ≤ 999 ∧ r (183 + 2 * k) = Int32.ofNat m
theorem isSeen_r {u Y f n : Nat} {V : Nat → Nat} {C : Nat → Nat → Nat} {P : Nat → Bool} {r : Nat → Int32} {M0 M : Mem} (h : S6 u V C P M0 M) (h6 : (cs P).length = 6) (hf : f < 15) (hV : ∀ c, V c ≤ 31) (hC : ∀ k i, C k i ≤ 99) (hr0 : mI M0 (u + 2) = r) (hP0 : P = hP r) (hY : r 7 = Int32.ofNat Y) (hY2 : Y ≤ 31) (hs : SeenOk r n) : So (FX12_isSeen u (Int32.ofNat f) M) (fun x => S6 u V C P M0 x.2 ∧ x.1 = if lkn V Y C P r f n = true then 1 else 0) := by
  obtain ⟨n6, hn0, hs⟩ := hs
  obtain ⟨p1, p2, p3⟩ := pix_m f hf
  have h4 := Qm_4 (P := P) h6 p1 p2
  unfold FX12_isSeen
  refine So.bind (takeFourth_r h h6 hf) (fun M1 hM1 => ?_)
  have k1 : S6 u V C P M0 M1 := h.keep (hM1.1.up (fun q hq => by omega))
  refine So_wl3 (fun v2 v3 K => ∃ k, k ≤ n ∧ v3 = Int32.ofNat k ∧ v2 = (if lkn V Y C P r f k = true then 1 else 0) ∧ S6 u V C P M0 K ∧ ∀ j, j < 4 → mI K (u + 27) j = Int32.ofNat (fC (Qm P (pa f) (pb f)) j)) (fun _ v3 _ => n - ix v3) ?_ fuel 1 0 M1 ⟨0, by omega, rfl, rfl, k1, hM1.2⟩ (by unfold fuel; omega)
  rintro v2 v3 K rec ⟨k, hk, rfl, rfl, k2, k3⟩ hr
  have isb : ∀ x : Bool, isB (if x = true then (1 : Int32) else 0) = true := fun x => by cases x <;> rfl
  refine So_jn0C (lkn V Y C P r f k = lkn V Y C P r f n) (fun q => So_gd (isb _) (So.ok ⟨k2, by rw [q]⟩)) (fun j8 hj8 => ?_)
  have er : mI K (u + 2) = r := by rw [k2.1.row]; exact hr0
  rw [er, hn0]
  by_cases z : k = n
  · rw [if_pos (by rw [z]; exact Int32.le_refl _)]; exact hj8 (by rw [z])
  rw [if_neg (nle (show k < n by omega) (by omega))]
  by_cases y : lkn V Y C P r f k = true
  rotate_left
  · rw [if_neg y, if_pos rfl]
    rw [Bool.not_eq_true] at y
    refine hj8 ?_
    obtain ⟨j, rfl⟩ : ∃ j, n = k + j := ⟨n - k, by omega⟩
    rw [y, lkn_no y j]
  rw [if_pos y, if_neg (by decide)]
  obtain ⟨⟨c, c1, c2⟩, m, m1, m2⟩ := hs k (by omega)
  have i1 : (182 : Int32) + 2 * Int32.ofNat k = Int32.ofNat (182 + 2 * k) := by rw [show (2 : Int32) = Int32.ofNat 2 from rfl, nn_mul]; exact nn_add 182 _
  rw [i1, s1 (182 + 2 * k), nn_ix (by omega), nn_ix (by omega), c2]
  refine So_gd (inb_nn (by omega) (by decide)) (So_nm ?_)
  rw [mI_e, isHeld_nn u _ c1]
  have k4 : S6 u V C P M0 (sI K (u + 27) 4 (Int32.ofNat c)) := k2.keep (Eo_sI (by omega))
  have er4 : mI (sI K (u + 27) 4 (Int32.ofNat c)) (u + 2) = r := by rw [k4.1.row]; exact hr0
  rw [er4]
  have ls : lkn V Y C P r f (k + 1) = (!P c && decide (cA V Y C P f c = m)) := by
    rw [lkn_s, y, c2, m2, nn_ix (by omega), nn_ix (by omega), Bool.true_and]
  have hPc : P c = decide (r (130 + c) = 1) := by rw [hP0]; rfl
  refine So.bindE rfl (So_jn2R (fun v L => v = (if lkn V Y C P r f (k + 1) = true then 1 else 0) ∧ S6 u V C P M0 L ∧ ∀ j, j < 4 → mI L (u + 27) j = Int32.ofNat (fC (Qm P (pa f) (pb f)) j)) (fun v L hL => So_nm ?_) (fun j hj => So_jn1R (fun L => lkn V Y C P r f (k + 1) = false ∧ S6 u V C P M0 L ∧ ∀ j, j < 4 → mI L (u + 27) j = Int32.ofNat (fC (Qm P (pa f) (pb f)) j)) (fun L hL => hj _ _ ⟨by rw [hL.1]; rfl, hL.2⟩) (fun j2 hj2 => ?_)))
  · rw [s1]
    exact hr _ _ _ ⟨k + 1, by omega, rfl, hL⟩ (by rw [nn_ix (by omega), nn_ix (by omega)]; omega)
  have k5 : ∀ j, j < 4 → mI (sI K (u + 27) 4 (Int32.ofNat c)) (u + 27) j = Int32.ofNat (fC (Qm P (pa f) (pb f)) j) := fun j hj => by rw [mI_n2 (by omega)]; exact k3 j hj
  by_cases w : r (130 + c) = 1
  · rw [if_pos w, if_pos (by decide)]
    exact hj2 _ ⟨by rw [ls, hPc, decide_eq_true w]; rfl, k4, k5⟩
  · rw [if_neg w, if_neg (by decide)]
    refine So_bdM (k4.five (c := c) k5 h4 hV (by rw [hr0]; exact hY) hY2 c1 mI_e) (fun v L hL => ?_)
    have v1 : v = Int32.ofNat (cA V Y C P f c) := hL.2
    have l1 : Eo (fun q => q = u + 28 ∨ q = u + 29) (sI K (u + 27) 4 (Int32.ofNat c)) L := hL.1
    have k6 : S6 u V C P M0 L := k4.keep (l1.up (fun q hq => by omega))
    have k7 : ∀ j, j < 4 → mI L (u + 27) j = Int32.ofNat (fC (Qm P (pa f) (pb f)) j) := fun j hj => by rw [(l1 (u + 27) (by omega)).1]; exact k5 j hj
    have erL : mI L (u + 2) = r := by rw [k6.1.row]; exact hr0
    rw [erL, v1, show 182 + 2 * k + 1 = 183 + 2 * k by omega, m2]
    have hcl := cA_le (V := V) (Y := Y) (P := P) hC f c
    have em : (Int32.ofNat (cA V Y C P f c) = Int32.ofNat m) ↔ cA V Y C P f c = m := nn_eq (by omega) (by omega)
    refine So_gd (inb_nn (by omega) (by decide)) (So.ite (fun q => hj2 _ ⟨?_, k6, k7⟩) (fun q => hj _ _ ⟨?_, k6, k7⟩))
    · rw [ls, decide_eq_false (fun x => q (em.mpr x)), Bool.and_false]
    · rw [ls, hPc, decide_eq_false w, decide_eq_true (em.mp (Classical.not_not.mp q))]; rfl
/-- those that can be, as bits -/
def cbB (L : Nat → Bool) : Nat → Int32
  | 0 => 0
  | f + 1 => cbB L f ||| (if L f = true then 1 <<< (Int32.ofNat f &&& 31) else 0)
theorem thatCanBe_r {u Y n : Nat} {V : Nat → Nat} {C : Nat → Nat → Nat} {P : Nat → Bool} {r : Nat → Int32} {M0 K1 K2 : Mem} {K0 : Int32} (e1 : FX12_laySix u M0 = some (K0, K1)) (e2 : FX12_layCounts u 0 K1 = some K2) (h : S6 u V C P M0 K2) (h6 : (cs P).length = 6) (hV : ∀ c, V c ≤ 31) (hC : ∀ k i, C k i ≤ 99) (hr0 : mI M0 (u + 2) = r) (hP0 : P = hP r) (hY : r 7 = Int32.ofNat Y) (hY2 : Y ≤ 31) (hs : SeenOk r n) : So (FX12_thatCanBe u M0) (fun x => S6 u V C P M0 x.2 ∧ x.1 = cbB (fun f => lkn V Y C P r f n) 15) := by
  unfold FX12_thatCanBe
  rw [bo e1, ob e2]
  refine So_wl3 (fun v4 v5 K => ∃ f, f ≤ 15 ∧ v5 = Int32.ofNat f ∧ v4 = cbB (fun f => lkn V Y C P r f n) f ∧ S6 u V C P M0 K) (fun _ v5 _ => 15 - ix v5) ?_ fuel 0 0 K2 ⟨0, by omega, rfl, rfl, h⟩ (by unfold fuel; omega)
  rintro v4 v5 K rec ⟨f, hf, rfl, rfl, k1⟩ hr
  by_cases z : f = 15
  · subst z
    rw [if_pos (show (15 : Int32) ≤ Int32.ofNat 15 by decide)]
    exact So.ok ⟨k1, rfl⟩
  rw [if_neg (show ¬ (15 : Int32) ≤ Int32.ofNat f from nle (n := 15) (by omega) (by decide))]
  refine So_bdM (isSeen_r k1 h6 (by omega) hV hC hr0 hP0 hY hY2 hs) (fun v L hL => ?_)
  have l1 : S6 u V C P M0 L := hL.1
  have l2 : v = _ := hL.2
  refine So_jn1R (fun w => w = if lkn V Y C P r f n = true then 1 <<< (Int32.ofNat f &&& 31) else 0) (fun w hw => So_nm (So_nm ?_)) (fun j hj => ?_)
  · rw [s1, hw]
    exact hr _ _ _ ⟨f + 1, by omega, rfl, rfl, l1⟩ (by rw [nn_ix (by omega), nn_ix (by omega)]; omega)
  · by_cases y : lkn V Y C P r f n = true
    · rw [l2, if_pos y, if_neg (by decide)]
      exact hj _ (by rw [if_pos y])
    · rw [l2, if_neg y, if_pos rfl]
      exact hj _ (by rw [if_neg y])
/-- the class's -/
theorem likely_c {b s Y n : Nat} {V : Nat → Nat} {C : Nat → Nat → Nat} {P : Nat → Bool} {r : Nat → Int32} {N : Mem} (h : FSr N b 15 V Y C P) (hC : ∀ k i, C k i ≤ 99) (hs : SRs N s r) (hn : SeenOk r n) : FX3_likely b s N = some (cbB (fun f => lkn V Y C P r f n) 15) := by
  obtain ⟨n', q1, q2, q3, q4⟩ := hs
  have hnn : n' = n := (nn_eq (by omega) (by have := hn.1; omega)).mp (q3.symm.trans hn.2.1)
  subst hnn
  apply So.eq
  unfold FX3_likely
  refine So_wl2 (fun v1 v2 => ∃ f, f ≤ 15 ∧ v2 = Int32.ofNat f ∧ v1 = cbB (fun f => lkn V Y C P r f n') f) (fun _ v2 => 15 - ix v2) ?_ fuel 0 0 ⟨0, by omega, rfl, rfl⟩ (by unfold fuel; omega)
  rintro v1 v2 rec ⟨f, hf, rfl, rfl⟩ hr
  by_cases z : f = 15
  · subst z
    rw [if_pos (show (15 : Int32) ≤ Int32.ofNat 15 by decide)]
    exact So.ok rfl
  rw [if_neg (show ¬ (15 : Int32) ≤ Int32.ofNat f from nle (n := 15) (by omega) (by decide))]
  refine So_wl2 (fun v5 v6 => ∃ k, k ≤ n' ∧ v6 = Int32.ofNat k ∧ v5 = if lkn V Y C P r f k = true then 1 else 0) (fun _ v6 => n' - ix v6) ?_ fuel 1 0 ⟨0, by omega, rfl, rfl⟩ (by unfold fuel; omega)
  rintro v5 v6 rec2 ⟨k, hk, rfl, rfl⟩ hr2
  refine So_jn0C (k = n') (fun q => So_jn1R (fun w => w = if lkn V Y C P r f n' = true then 1 <<< (Int32.ofNat f &&& 31) else 0) (fun w hw => So_nm (So_nm ?_)) (fun j hj => ?_)) (fun j9 hj9 => ?_)
  · rw [s1, hw]
    exact hr _ _ ⟨f + 1, by omega, rfl, rfl⟩ (by rw [nn_ix (by omega), nn_ix (by omega)]; omega)
  · by_cases y : lkn V Y C P r f n' = true
    · rw [q, if_pos y, if_neg (by decide)]
      exact hj _ (by rw [if_pos y])
    · rw [q, if_neg y, if_pos rfl]
      exact hj _ (by rw [if_neg y])
  rw [q2]
  by_cases zk : k = n'
  · rw [if_pos (by rw [zk]; exact Int32.le_refl _)]; exact hj9 zk
  rw [if_neg (nle (show k < n' by omega) (by omega)), if_neg (show ¬ (6 : Int32) ≤ Int32.ofNat k from nle (n := 6) (by omega) (by decide)), nn_ix (by omega)]
  obtain ⟨⟨c, c1, c2, c3⟩, m, m1, m2, m3⟩ := q4 k (by omega)
  refine So_gd (inb_nn (by omega) (by decide)) (So_nm ?_)
  rw [c3, m3]
  have ls : lkn V Y C P r f (k + 1) = (lkn V Y C P r f k && (!P c && decide (cA V Y C P f c = m))) := by
    rw [lkn_s, c2, m2, nn_ix (by omega), nn_ix (by omega)]
  refine So_jn1R (fun v => v = if lkn V Y C P r f (k + 1) = true then 1 else 0) (fun v hv => So_nm ?_) (fun j hj => So_jn0C (lkn V Y C P r f (k + 1) = false) (fun q => hj _ (by rw [q]; rfl)) (fun j2 hj2 => ?_))
  · rw [s1]
    exact hr2 _ _ ⟨k + 1, by omega, rfl, hv⟩ (by rw [nn_ix (by omega), nn_ix (by omega)]; omega)
  by_cases y : lkn V Y C P r f k = true
  rotate_left
  · rw [if_neg y, if_pos rfl]
    rw [Bool.not_eq_true] at y
    exact hj2 (by rw [ls, y]; rfl)
  rw [if_pos y, if_neg (by decide)]
  refine So.bindE (isCard_nn c1) ?_
  rw [if_neg (by decide), nn_ix (by omega), nn_ix (by omega), show b + 1 + 1 + 1 * f = b + 2 + f by omega, (h.1 f (by omega)).1 c c1]
  refine So_gd (inb_nn (by omega) (by decide)) (So_gd (inb_nn c1 (by decide)) (So_gd (inb_nn (by omega) (by decide)) ?_))
  have hcl := cA_le (V := V) (Y := Y) (P := P) hC f c
  have em : (Int32.ofNat (cA V Y C P f c) = Int32.ofNat m) ↔ cA V Y C P f c = m := nn_eq (by omega) (by omega)
  by_cases w : P c = true
  · rw [if_pos w, if_pos (fun q => by
      have := congrArg Int32.toInt q
      rw [nn_int (by omega), show (-1 : Int32).toInt = -1 from rfl] at this; omega)]
    exact hj2 (by rw [ls, w]; simp)
  · rw [if_neg w]
    rw [Bool.not_eq_true] at w
    refine So.ite (fun q => hj2 ?_) (fun q => hj _ ?_)
    · rw [ls, decide_eq_false (fun x => q (em.mpr x))]; simp
    · rw [ls, y, w, decide_eq_true (em.mp (Classical.not_not.mp q))]; rfl
theorem InvL.seenOk {Λ : Lam} {t u T : Nat} {M : Mem} (h : InvL Λ t u T M) : ∃ n, SeenOk (mI M (u + 2)) n ∧ SRs M (t + 1) (mI M (u + 2)) := by
  obtain ⟨n, a1, a2, a3, a4⟩ := h.2.2.1.2.2.2.1
  exact ⟨n, ⟨a1, a3, fun k hk => by obtain ⟨⟨c, c1, c2, _⟩, m, m1, m2, _⟩ := a4 k hk; exact ⟨⟨c, c1, c2⟩, m, m1, m2⟩⟩, h.2.2.1.2.2.2.1⟩
theorem st_canBe : St_canBe Inv := by
  rintro t u T M ⟨Λ, h⟩
  have hu := h.1
  obtain ⟨a1, a2, a3⟩ := h.held
  have e6 : (Int32.ofNat (cs (hP (mI M (u + 2)))).length = 6) ↔ (cs (hP (mI M (u + 2)))).length = 6 := nn_eq (b := 6) (by omega) (by omega)
  by_cases h6 : (cs (hP (mI M (u + 2)))).length = 6
  rotate_left
  · refine ⟨-1, M, sI M u 0 0, ?_, ?_, Λ, h.u0 0⟩
    · unfold FX11_canBe
      rw [ob a1.count, if_neg (fun q => h6 (e6.mp q))]
    · unfold FX12_canBe
      rw [nmb, ob (heldM u0_row a2), jb2, if_pos (fun q => h6 (e6.mp q))]
  obtain ⟨V, Y, C, N, K0, K1, K2, s1', s2, s3, s4, s5, s6, s7, y1, y2, hV, hC, _⟩ := set6 h h6
  have r3 : mI (sI N u 0 0) (u + 2) = mI M (u + 2) := u0_row.trans s3
  rw [r3] at y1
  obtain ⟨n, o1, o2⟩ := s2.seenOk
  rw [s3] at o1 o2
  obtain ⟨⟨v, L⟩, r1, r2, r4⟩ := thatCanBe_r s5 s6 s7 h6 hV (hC 0) r3 rfl y1 y2 o1
  have r2 : S6 u V (C 0) _ (sI N u 0 0) L := r2
  have r4 : v = _ := r4
  refine ⟨v, N, L, ?_, ?_, Λ, (s2.u0 0).cn r2.1⟩
  · unfold FX11_canBe
    rw [ob a1.count, if_pos (e6.mpr h6), ob s1', ob (likely_c s4 (hC 0) o2 o1), r4]
  · unfold FX12_canBe
    rw [nmb, ob (heldM r3 a2), jb2, if_neg (fun q => q (e6.mpr h6)), bo r1]
