/-! ===== the reference counts five: part by part ===== -/
theorem bt_tab : ∀ s, s < 32 → ∀ k, k < 5 → ((Int32.ofNat s >>> (Int32.ofNat k &&& 31)) &&& 1) = Int32.ofNat (bt s k) := by decide +kernel
theorem bt_le {s k : Nat} : bt s k ≤ 1 := by unfold bt; omega
theorem bt_bit {s k : Nat} : s.testBit k = decide (bt s k = 1) := Nat.testBit_eq_decide_div_mod_eq
theorem szS_le {s m : Nat} : szS s m ≤ m := by
  have := sm_le (g := fun k => bt s k) (b := 1) (n := m) (fun i _ => bt_le)
  unfold szS; omega
theorem suS_le {V f : Nat → Nat} {s m : Nat} (hV : ∀ c, V c ≤ 31) : suS V f s m ≤ m * 31 := sm_le (fun i _ => Nat.le_trans (Nat.mul_le_mul (bt_le (s := s) (k := i)) (hV (f i))) (by omega))
/-- five cards lie there -/
def F5 (u : Nat) (f : Nat → Nat) (M : Mem) : Prop := ∀ k, k < 5 → f k < 52 ∧ mI M (u + 27) k = Int32.ofNat (f k)
theorem le1 {n : Nat} (h : n < 2147483648) : (Int32.ofNat n ≤ 1) ↔ n ≤ 1 := nn_le (b := 1) h (by omega)
theorem fifteensOf_r {u Y : Nat} {V : Nat → Nat} {C : Nat → Nat → Nat} {f : Nat → Nat} {M : Mem} (hL : LC u V C M) (hf : F5 u f M) (hV : ∀ c, V c ≤ 31) (hY : mI M (u + 2) 7 = Int32.ofNat Y) (hY2 : Y ≤ 31) : FX12_fifteensOf u M = some (Int32.ofNat (fif V Y (C 1) f 5 32)) := by
  apply So.eq
  unfold FX12_fifteensOf
  generalize hg : (fun s => if 1 < szS s 5 ∧ suS V f s 5 = Y then C 1 (szS s 5) else 0) = g
  have hfif : ∀ n, fif V Y (C 1) f 5 n = sm g n := fun n => by unfold fif; rw [hg]
  rw [hfif]
  refine So_wl2 (fun v1 v2 => ∃ s, 3 ≤ s ∧ s ≤ 32 ∧ v2 = Int32.ofNat s ∧ v1 = Int32.ofNat (sm g s)) (fun _ v2 => 32 - ix v2) ?_ fuel 0 3 ⟨3, by omega, by omega, rfl, ?_⟩ (by unfold fuel; omega)
  rotate_left
  · rw [sm_0 (n := 3) (fun i hi => ?_)]
    · rfl
    · have e : szS i 5 ≤ 1 := by
        obtain rfl | rfl | rfl : i = 0 ∨ i = 1 ∨ i = 2 := by omega
        all_goals decide
      rw [← hg]
      exact if_neg (fun z => by omega)
  rintro v1 v2 rec ⟨s, s3, s32, rfl, rfl⟩ hr
  by_cases z : s = 32
  · subst z
    rw [if_pos (show (32 : Int32) ≤ Int32.ofNat 32 by decide)]
    exact So.ok rfl
  rw [if_neg (show ¬ (32 : Int32) ≤ Int32.ofNat s from nle (n := 32) (by omega) (by decide))]
  refine So_wl3 (fun v5 v6 v7 => ∃ k, k ≤ 5 ∧ v7 = Int32.ofNat k ∧ v5 = Int32.ofNat (suS V f s k) ∧ v6 = Int32.ofNat (szS s k)) (fun _ _ v7 => 5 - ix v7) ?_ fuel 0 0 0 ⟨0, by omega, rfl, rfl, rfl⟩ (by unfold fuel; omega)
  rintro v5 v6 v7 rec2 ⟨k, k5, rfl, rfl, rfl⟩ hr2
  by_cases y : k = 5
  · subst y
    rw [if_pos (show (5 : Int32) ≤ Int32.ofNat 5 by decide)]
    have a1 := szS_le (s := s) (m := 5)
    have a2 := suS_le (V := V) (f := f) (s := s) (m := 5) hV
    refine So_jn1R (fun v => v = Int32.ofNat (g s)) (fun v hv => So_nm (So_nm ?_)) (fun j hj => So_jn0C (g s = 0) (fun e => hj _ (by rw [e]; rfl)) (fun j2 hj2 => ?_))
    · rw [s1, hv, nn_add]
      exact hr _ _ ⟨s + 1, by omega, by omega, rfl, rfl⟩ (by rw [nn_ix (by omega), nn_ix (by omega)]; omega)
    · have gs : g s = if 1 < szS s 5 ∧ suS V f s 5 = Y then C 1 (szS s 5) else 0 := by rw [← hg]
      refine So.ite (fun w => hj2 ?_) (fun w => So.ite (fun x => hj2 ?_) (fun x => ?_))
      · rw [gs]; exact if_neg (fun q => by have := (le1 (by omega)).mp w; omega)
      · rw [gs]; exact if_neg (fun q => x (by rw [hY, q.2]))
      · have w : 1 < szS s 5 := Nat.lt_of_not_le (fun q => w ((le1 (by omega)).mpr q))
        have x := Classical.not_not.mp x
        rw [hY, nn_eq (by omega) (by omega)] at x
        rw [nn_ix (by omega)]
        refine So_gd (inb_nn (by omega) (by decide)) (hj _ ?_)
        rw [gs, if_pos ⟨w, x⟩]
        exact (hL.2.1 _ (by omega) (by omega)).1
  · rw [if_neg (show ¬ (5 : Int32) ≤ Int32.ofNat k from nle (n := 5) (by omega) (by decide))]
    refine So.bindE (is_m (m := s) (r := k) (by omega)) ?_
    rw [bt_tab s (by omega) k (by omega), nn_ix (by omega)]
    refine So_jn1R (fun v => v = Int32.ofNat (bt s k * V (f k))) (fun v hv => So_nm (So_nm (So_nm ?_))) (fun j hj => ?_)
    · rw [s1, hv, nn_add, nn_add]
      exact hr2 _ _ _ ⟨k + 1, by omega, rfl, rfl, rfl⟩ (by rw [nn_ix (by omega), nn_ix (by omega)]; omega)
    · have hb := bt_le (s := s) (k := k)
      by_cases x : bt s k = 1
      · rw [bt_bit, if_pos (decide_eq_true x), if_neg (by decide), (hf k (by omega)).2, nn_ix (by have := (hf k (by omega)).1; omega)]
        refine So_gd (inb_nn (by omega) (by decide)) (So_gd (inb_nn (hf k (by omega)).1 (by decide)) (hj _ ?_))
        rw [hL.1 _ (hf k (by omega)).1, x, Nat.one_mul]
      · rw [bt_bit, decide_eq_false x, if_pos (by decide)]
        exact hj _ (by rw [show bt s k = 0 by omega, Nat.zero_mul]; rfl)
theorem F5.rank {u k : Nat} {f : Nat → Nat} {M : Mem} (h : F5 u f M) (hk : k < 5) : FX12_rankOf (mI M (u + 27) k) = some (Int32.ofNat (f k / 4)) := by rw [(h k hk).2, rankOf_nn (by have := (h k hk).1; omega)]
theorem pairsOf_r {u : Nat} {V : Nat → Nat} {C : Nat → Nat → Nat} {f : Nat → Nat} {M : Mem} (hL : LC u V C M) (hf : F5 u f M) : FX12_pairsOf u M = some (Int32.ofNat (prs (C 2) (fun k => f k / 4) 5)) := by
  apply So.eq
  unfold FX12_pairsOf
  refine So_wl2 (fun v1 v2 => ∃ a, a ≤ 5 ∧ v2 = Int32.ofNat a ∧ v1 = Int32.ofNat (prs (C 2) (fun k => f k / 4) a)) (fun _ v2 => 5 - ix v2) ?_ fuel 0 0 ⟨0, by omega, rfl, rfl⟩ (by unfold fuel; omega)
  rintro v1 v2 rec ⟨a, a5, rfl, rfl⟩ hr
  by_cases z : a = 5
  · subst z
    rw [if_pos (show (5 : Int32) ≤ Int32.ofNat 5 by decide)]
    exact So.ok rfl
  rw [if_neg (show ¬ (5 : Int32) ≤ Int32.ofNat a from nle (n := 5) (by omega) (by decide))]
  refine So_wl2 (fun v5 v6 => ∃ b, b ≤ a ∧ v6 = Int32.ofNat b ∧ v5 = Int32.ofNat (prs (C 2) (fun k => f k / 4) a + sm (fun b => if f a / 4 = f b / 4 then C 2 (f a / 4) else 0) b)) (fun _ v6 => a - ix v6) ?_ fuel _ 0 ⟨0, by omega, rfl, rfl⟩ (by unfold fuel; omega)
  rintro v5 v6 rec2 ⟨b, ba, rfl, rfl⟩ hr2
  by_cases y : b = a
  · subst y
    rw [if_pos (Int32.le_refl _)]
    refine So_nm ?_
    rw [s1]
    exact hr _ _ ⟨b + 1, by omega, rfl, rfl⟩ (by rw [nn_ix (by omega), nn_ix (by omega)]; omega)
  · have fa := (hf a (by omega)).1
    have fb := (hf b (by omega)).1
    rw [if_neg (nle (show b < a by omega) (by omega)), nn_ix (by omega), nn_ix (by omega)]
    refine So_gd (inb_nn (by omega) (by decide)) (So.bindE (hf.rank (by omega)) (So_gd (inb_nn (by omega) (by decide)) (So.bindE (hf.rank (by omega)) ?_)))
    refine So_jn1R (fun v => v = Int32.ofNat (if f a / 4 = f b / 4 then C 2 (f a / 4) else 0)) (fun v hv => So_nm (So_nm ?_)) (fun j hj => ?_)
    · rw [s1, hv, nn_add]
      exact hr2 _ _ ⟨b + 1, by omega, rfl, by rw [sm_s, Nat.add_assoc]⟩ (by rw [nn_ix (by omega), nn_ix (by omega)]; omega)
    · have e : (Int32.ofNat (f a / 4) = Int32.ofNat (f b / 4)) ↔ f a / 4 = f b / 4 := nn_eq (by omega) (by omega)
      by_cases x : f a / 4 = f b / 4
      · rw [if_neg (fun q => q (e.mpr x))]
        refine So_gd (inb_nn (by omega) (by decide)) (So.bindE (hf.rank (by omega)) ?_)
        rw [nn_ix (by omega)]
        refine So_gd (inb_nn (by omega) (by decide)) (hj _ ?_)
        rw [if_pos x]
        exact hL.2.2.1 _ (by omega)
      · rw [if_pos (fun q => x (e.mp q))]
        exact hj _ (by rw [if_neg x]; rfl)
theorem runsOf_r {u : Nat} {V : Nat → Nat} {C : Nat → Nat → Nat} {f : Nat → Nat} {M : Mem} (hL : LC u V C M) (hf : F5 u f M) : So (FX12_runsOf u M) (fun x => x.1 = Int32.ofNat (rns (C 3) f) ∧ Eo (fun q => q = u + 29) M x.2) := by
  unfold FX12_runsOf
  refine loop_for 14 (by decide) (fun i N => Eo (fun q => q = u + 29) M N ∧ ∀ r, r < i → mI N (u + 29) r = 0) M ⟨Eo.rf, fun r hr => absurd hr (by omega)⟩ (fun N1 rec1 hN1 => ?_) (fun i N rec hi hN hr => ?_)
  rotate_left
  · refine So.ite (fun z => absurd z (nle hi (by decide))) (fun _ => ?_)
    rw [nn_ix (by omega)]
    refine So_gd (inb_nn hi (by decide)) (So_nm (So_nm (hr _ ⟨hN.1.tr (Eo_sI rfl), fun r hr => ?_⟩)))
    by_cases z : r = i
    · rw [z, mI_e]
    · rw [mI_n2 z]; exact hN.2 r (by omega)
  refine So.ite (fun _ => ?_) (fun z => absurd z (ge_self 14))
  obtain ⟨n1, n2⟩ := hN1
  refine loop_for 5 (by decide) (fun k N => Eo (fun q => q = u + 29) M N ∧ ∀ r, r < 14 → mI N (u + 29) r = Int32.ofNat (cnk (fun k => f k / 4) k r)) N1 ⟨n1, fun r hr => n2 r hr⟩ (fun N2 rec2 hN2 => ?_) (fun k N rec hk hN hr => ?_)
  rotate_left
  · obtain ⟨m1, m2⟩ := hN
    have e27 : mI N (u + 27) = mI M (u + 27) := (m1 (u + 27) (by omega)).1
    have fk := (hf k hk).1
    refine So.ite (fun z => absurd z (nle hk (by decide))) (fun _ => ?_)
    rw [nn_ix (by omega), e27]
    refine So_gd (inb_nn hk (by decide)) (So.bindE (hf.rank hk) ?_)
    rw [nn_ix (by omega)]
    refine So_gd (inb_nn (by omega) (by decide)) (So_gd (inb_nn (by omega) (by decide)) (So_nm (So_nm (hr _ ⟨m1.tr (Eo_sI rfl), fun r hr => ?_⟩))))
    rw [cnk_s]
    by_cases z : r = f k / 4
    · subst z
      rw [mI_e, m2 _ (by omega), if_pos rfl]; exact nn_add _ 1
    · rw [mI_n2 z, m2 r hr, if_neg (fun q => z q.symm), Nat.add_zero]
  refine So.ite (fun _ => ?_) (fun z => absurd z (ge_self 5))
  obtain ⟨m1, m2⟩ := hN2
  unfold rns
  have h5 : ∀ j, sm (cnk (fun k => f k / 4) 5) j ≤ 5 := fun j => cnk_sum 5 j
  have h1 : ∀ i, cnk (fun k => f k / 4) 5 i ≤ 5 := fun i => cnk_le
  generalize cnk (fun k => f k / 4) 5 = h at m2 h5 h1
  have hL2 : LC u V C N2 := hL.keep (fun j a b => (m1 (u + j) (by omega)).1)
  refine So_wl4 (fun v9 v10 v11 v12 => ∃ r, r ≤ 14 ∧ v12 = Int32.ofNat r ∧ v9 = Int32.ofNat (rsn (C 3) h r) ∧ v10 = Int32.ofNat (rsc h r).1 ∧ v11 = Int32.ofNat (rsc h r).2) (fun _ _ _ v12 => 14 - ix v12) ?_ fuel 0 0 1 0 ⟨0, by omega, rfl, rfl, rfl, rfl⟩ (by unfold fuel; omega)
  rintro v9 v10 v11 v12 rec ⟨r, r14, rfl, rfl, rfl, rfl⟩ hr
  by_cases z : r = 14
  · subst z
    rw [if_pos (show (14 : Int32) ≤ Int32.ofNat 14 by decide)]
    exact So.ok ⟨rfl, m1⟩
  rw [if_neg (show ¬ (14 : Int32) ≤ Int32.ofNat r from nle (n := 14) (by omega) (by decide)), nn_ix (by omega), m2 r (by omega)]
  have hlen := Nat.le_trans (rsc_le (h := h) r) (h5 r)
  have hh := h1 r
  refine So_gd (inb_nn (by omega) (by decide)) (So_jn3R (fun a b c => a = Int32.ofNat (rsn (C 3) h (r + 1)) ∧ b = Int32.ofNat (rsc h (r + 1)).1 ∧ c = Int32.ofNat (rsc h (r + 1)).2) (fun a b c habc => So_nm ?_) (fun j hj => ?_))
  · obtain ⟨rfl, rfl, rfl⟩ := habc
    rw [s1]
    exact hr _ _ _ _ ⟨r + 1, by omega, rfl, rfl, rfl, rfl⟩ (by rw [nn_ix (by omega), nn_ix (by omega)]; omega)
  have e0 : (Int32.ofNat (h r) ≤ 0) ↔ h r = 0 := by
    rw [show (0 : Int32) = Int32.ofNat 0 from rfl, nn_le (by omega) (by omega)]; omega
  have e2 : (Int32.ofNat (rsc h r).1 ≤ 2) ↔ (rsc h r).1 ≤ 2 := nn_le (b := 2) (by omega) (by omega)
  by_cases y : h r = 0
  · rw [if_pos (e0.mpr y)]
    have er : rsc h (r + 1) = (0, 1) := by rw [rsc_s, if_pos y]
    refine So_jn1R (fun v => v = Int32.ofNat (if h r = 0 ∧ 2 < (rsc h r).1 then (rsc h r).2 * C 3 (rsc h r).1 else 0)) (fun v hv => So_nm (hj _ _ _ ⟨?_, ?_, ?_⟩)) (fun j2 hj2 => ?_)
    · rw [hv, nn_add, rsn_s]
    · rw [er]; rfl
    · rw [er]; rfl
    · by_cases x : (rsc h r).1 ≤ 2
      · rw [if_pos (e2.mpr x)]
        exact hj2 _ (by rw [if_neg (fun q => by omega)]; rfl)
      · rw [if_neg (fun q => x (e2.mp q)), nn_ix (by omega)]
        refine So_gd (inb_nn (by omega) (by decide)) (hj2 _ ?_)
        rw [(hL2.2.1 _ (by omega) (by omega)).2, nn_mul, if_pos ⟨y, by omega⟩]
  · rw [if_neg (fun q => y (e0.mp q))]
    have er : rsc h (r + 1) = ((rsc h r).1 + 1, (rsc h r).2 * h r) := by rw [rsc_s, if_neg y]
    refine So_nm (So_gd (inb_nn (by omega) (by decide)) (So_nm (hj _ _ _ ⟨?_, ?_, ?_⟩)))
    · rw [rsn_s, if_neg (fun q => y q.1), Nat.add_zero]
    · rw [er]; exact s1 _
    · rw [er]; exact nn_mul _ _
theorem F5.suit {u k : Nat} {f : Nat → Nat} {M : Mem} (h : F5 u f M) (hk : k < 5) : irm (mI M (u + 27) k) 4 = Int32.ofNat (f k % 4) := by
  rw [(h k hk).2]; exact nn_rem (b := 4) (by have := (h k hk).1; omega) (by decide)
theorem flushOf_r {u crib : Nat} {V : Nat → Nat} {C : Nat → Nat → Nat} {f : Nat → Nat} {M : Mem} (hL : LC u V C M) (hf : F5 u f M) (hc : crib < 2) : FX12_flushOf u (Int32.ofNat crib) M = some (Int32.ofNat (fls (C 4) crib f)) := by
  apply So.eq
  unfold FX12_flushOf
  rw [hf.suit (by decide)]
  refine So_nm ?_
  have m0 : f 0 % 4 < 4 := Nat.mod_lt _ (by decide)
  refine So_wl1 (fun v => ∃ k, 1 ≤ k ∧ k ≤ 4 ∧ v = Int32.ofNat k ∧ ∀ j, j < k → f j % 4 = f 0 % 4) (fun v => 4 - ix v) ?_ fuel 1 ⟨1, by omega, by omega, rfl, fun j hj => by rw [show j = 0 by omega]⟩ (by unfold fuel; omega)
  rintro v rec ⟨k, k1, k4, rfl, hk⟩ hr
  by_cases z : k = 4
  · subst z
    rw [if_pos (show (4 : Int32) ≤ Int32.ofNat 4 by decide), hf.suit (by decide)]
    have e : fls (C 4) crib f = if f 4 % 4 = f 0 % 4 then C 4 (2 * (f 0 % 4) + 1) else if crib = 1 then 0 else C 4 (2 * (f 0 % 4)) := by
      unfold fls; rw [if_pos ⟨hk 1 (by omega), hk 2 (by omega), hk 3 (by omega)⟩]
    refine So_jn1R (fun v => v = Int32.ofNat (fls (C 4) crib f)) (fun v hv => So.ok hv) (fun j hj => ?_)
    have es : (Int32.ofNat (f 4 % 4) = Int32.ofNat (f 0 % 4)) ↔ f 4 % 4 = f 0 % 4 := nn_eq (by omega) (by omega)
    by_cases y : f 4 % 4 = f 0 % 4
    · rw [if_neg (fun q => q (es.mpr y)), show (4 : Int32) + Int32.ofNat (f 0 % 4) = Int32.ofNat (4 + f 0 % 4) from nn_add 4 _, nn_ix (by omega)]
      refine So_gd (inb_nn (by omega) (by decide)) (hj _ ?_)
      rw [e, if_pos y]; exact (hL.2.2.2 _ m0).2.1
    · rw [if_pos (fun q => y (es.mp q))]
      have e1 : (Int32.ofNat crib = 1) ↔ crib = 1 := nn_eq (b := 1) (by omega) (by omega)
      by_cases x : crib = 1
      · rw [if_neg (fun q => q (e1.mpr x))]
        exact hj _ (by rw [e, if_neg y, if_pos x]; rfl)
      · rw [if_pos (fun q => x (e1.mp q)), nn_ix (by omega)]
        refine So_gd (inb_nn (by omega) (by decide)) (hj _ ?_)
        rw [e, if_neg y, if_neg x]; exact (hL.2.2.2 _ m0).1
  · rw [if_neg (show ¬ (4 : Int32) ≤ Int32.ofNat k from nle (n := 4) (by omega) (by decide)), nn_ix (by omega), hf.suit (by omega)]
    refine So_gd (inb_nn (by omega) (by decide)) ?_
    have es : (Int32.ofNat (f k % 4) = Int32.ofNat (f 0 % 4)) ↔ f k % 4 = f 0 % 4 := nn_eq (by omega) (by omega)
    by_cases y : f k % 4 = f 0 % 4
    · rw [if_pos (es.mpr y)]
      refine So_nm ?_
      rw [s1]
      refine hr _ ⟨k + 1, by omega, by omega, rfl, fun j hj => ?_⟩ (by rw [nn_ix (by omega), nn_ix (by omega)]; omega)
      by_cases w : j = k
      · rw [w]; exact y
      · exact hk j (by omega)
    · rw [if_neg (fun q => y (es.mp q))]
      refine So.ok ?_
      unfold fls
      rw [if_neg (fun q => ?_)]
      · rfl
      · obtain rfl | rfl | rfl : k = 1 ∨ k = 2 ∨ k = 3 := by omega
        · exact y q.1
        · exact y q.2.1
        · exact y q.2.2
theorem nobsOf_r {u : Nat} {V : Nat → Nat} {C : Nat → Nat → Nat} {f : Nat → Nat} {M : Mem} (hL : LC u V C M) (hf : F5 u f M) : FX12_nobsOf u M = some (Int32.ofNat (nbs (C 5) f)) := by
  apply So.eq
  unfold FX12_nobsOf nbs
  refine So_wl2 (fun v1 v2 => ∃ k, k ≤ 4 ∧ v2 = Int32.ofNat k ∧ v1 = Int32.ofNat (sm (fun k => if f k / 4 = 10 ∧ f k % 4 = f 4 % 4 then C 5 (f k % 4) else 0) k)) (fun _ v2 => 4 - ix v2) ?_ fuel 0 0 ⟨0, by omega, rfl, rfl⟩ (by unfold fuel; omega)
  rintro v1 v2 rec ⟨k, k4, rfl, rfl⟩ hr
  by_cases z : k = 4
  · subst z
    rw [if_pos (show (4 : Int32) ≤ Int32.ofNat 4 by decide)]
    exact So.ok rfl
  have fk := (hf k (by omega)).1
  rw [if_neg (show ¬ (4 : Int32) ≤ Int32.ofNat k from nle (n := 4) (by omega) (by decide)), nn_ix (by omega)]
  refine So_gd (inb_nn (by omega) (by decide)) (So.bindE (hf.rank (by omega)) ?_)
  rw [hf.suit (by omega), hf.suit (by omega)]
  refine So_jn1R (fun v => v = Int32.ofNat (if f k / 4 = 10 ∧ f k % 4 = f 4 % 4 then C 5 (f k % 4) else 0)) (fun v hv => So_nm (So_nm ?_)) (fun j hj => So_jn0C (¬ (f k / 4 = 10 ∧ f k % 4 = f 4 % 4)) (fun q => hj _ (by rw [if_neg q]; rfl)) (fun j2 hj2 => ?_))
  · rw [s1, hv, nn_add]
    exact hr _ _ ⟨k + 1, by omega, rfl, rfl⟩ (by rw [nn_ix (by omega), nn_ix (by omega)]; omega)
  · have e10 : (Int32.ofNat (f k / 4) = 10) ↔ f k / 4 = 10 := nn_eq (b := 10) (by omega) (by omega)
    have es : (Int32.ofNat (f k % 4) = Int32.ofNat (f 4 % 4)) ↔ f k % 4 = f 4 % 4 := nn_eq (by omega) (by omega)
    refine So.ite (fun q => hj2 (fun w => q (e10.mpr w.1))) (fun q => So_gd (inb_nn (by omega) (by decide)) (So.ite (fun x => hj2 (fun w => x (es.mpr w.2))) (fun x => ?_)))
    rw [nn_ix (by omega)]
    refine So_gd (inb_nn (by omega) (by decide)) (So_gd (inb_nn (by omega) (by decide)) (hj _ ?_))
    rw [if_pos ⟨e10.mp (Classical.not_not.mp q), es.mp (Classical.not_not.mp x)⟩]
    exact (hL.2.2.2 _ (by omega)).2.2
theorem countFive_r {u Y crib : Nat} {V : Nat → Nat} {C : Nat → Nat → Nat} {f : Nat → Nat} {M : Mem} (hL : LC u V C M) (hf : F5 u f M) (hV : ∀ c, V c ≤ 31) (hY : mI M (u + 2) 7 = Int32.ofNat Y) (hY2 : Y ≤ 31) (hc : crib < 2) : So (FX12_countFive u (Int32.ofNat crib) M) (fun x => Eo (fun q => q = u + 28 ∨ q = u + 29) M x.2 ∧ x.1 = Int32.ofNat (amt V Y C crib f 0) ∧ ∀ w, w < 6 → mI x.2 (u + 28) w = Int32.ofNat (amt V Y C crib f w)) := by
  unfold FX12_countFive
  refine So.bindE (fifteensOf_r hL hf hV hY hY2) (So_nm ?_)
  have f1 : F5 u f (sI M (u + 28) 1 (Int32.ofNat (fif V Y (C 1) f 5 32))) := fun k hk => by rw [mI_n1 (by omega)]; exact hf k hk
  have l1 : LC u V C (sI M (u + 28) 1 (Int32.ofNat (fif V Y (C 1) f 5 32))) := hL.keep (fun j a b => by funext k; rw [mI_n1 (by omega)])
  refine So.bindE (pairsOf_r l1 f1) (So_nm ?_)
  generalize hM6 : sI (sI M (u + 28) 1 (Int32.ofNat (fif V Y (C 1) f 5 32))) (u + 28) 2 (Int32.ofNat (prs (C 2) (fun k => f k / 4) 5)) = M6
  have E6 : Eo (fun q => q = u + 28 ∨ q = u + 29) M M6 := by rw [← hM6]; exact (Eo_sI (Or.inl rfl)).tr (Eo_sI (Or.inl rfl))
  have a1 : mI M6 (u + 28) 1 = Int32.ofNat (amt V Y C crib f 1) := by rw [← hM6, mI_n2 (by decide), mI_e]; rfl
  have a2 : mI M6 (u + 28) 2 = Int32.ofNat (amt V Y C crib f 2) := by rw [← hM6, mI_e]; rfl
  have kp : ∀ N, Eo (fun q => q = u + 28 ∨ q = u + 29) M N → F5 u f N ∧ LC u V C N := fun N hN => ⟨fun k hk => by rw [(hN (u + 27) (by omega)).1]; exact hf k hk, hL.keep (fun j a b => (hN (u + j) (by omega)).1)⟩
  refine So_bdM (runsOf_r (kp M6 E6).2 (kp M6 E6).1) (fun v M8 h8 => So_nm ?_)
  have v8 : v = _ := h8.1
  have e8 : Eo (fun q => q = u + 29) M6 M8 := h8.2
  have E10 : Eo (fun q => q = u + 28 ∨ q = u + 29) M (sI M8 (u + 28) 3 v) := (E6.tr (e8.up (fun q hq => Or.inr hq))).tr (Eo_sI (Or.inl rfl))
  have b1 : ∀ k, k ≠ 3 → mI (sI M8 (u + 28) 3 v) (u + 28) k = mI M6 (u + 28) k := fun k hk => by rw [mI_n2 hk, (e8 (u + 28) (by omega)).1]
  have b3 : mI (sI M8 (u + 28) 3 v) (u + 28) 3 = Int32.ofNat (amt V Y C crib f 3) := by rw [mI_e, v8]; rfl
  generalize sI M8 (u + 28) 3 v = M10 at E10 b1 b3
  refine So.bindE (flushOf_r (kp M10 E10).2 (kp M10 E10).1 hc) (So_nm ?_)
  have E13 : Eo (fun q => q = u + 28 ∨ q = u + 29) M (sI M10 (u + 28) 4 (Int32.ofNat (fls (C 4) crib f))) := E10.tr (Eo_sI (Or.inl rfl))
  refine So.bindE (nobsOf_r (kp _ E13).2 (kp _ E13).1) (So_nm (So_nm ?_))
  generalize hM16 : sI (sI M10 (u + 28) 4 (Int32.ofNat (fls (C 4) crib f))) (u + 28) 5 (Int32.ofNat (nbs (C 5) f)) = M16
  have E16 : Eo (fun q => q = u + 28 ∨ q = u + 29) M M16 := by rw [← hM16]; exact E13.tr (Eo_sI (Or.inl rfl))
  have c1 : mI M16 (u + 28) 1 = Int32.ofNat (amt V Y C crib f 1) := by rw [← hM16, mI_n2 (by decide), mI_n2 (by decide), b1 1 (by decide), a1]
  have c2 : mI M16 (u + 28) 2 = Int32.ofNat (amt V Y C crib f 2) := by rw [← hM16, mI_n2 (by decide), mI_n2 (by decide), b1 2 (by decide), a2]
  have c3 : mI M16 (u + 28) 3 = Int32.ofNat (amt V Y C crib f 3) := by rw [← hM16, mI_n2 (by decide), mI_n2 (by decide), b3]
  have c4 : mI M16 (u + 28) 4 = Int32.ofNat (amt V Y C crib f 4) := by rw [← hM16, mI_n2 (by decide), mI_e]; rfl
  have c5 : mI M16 (u + 28) 5 = Int32.ofNat (amt V Y C crib f 5) := by rw [← hM16, mI_e]; rfl
  have c0 : (((((mI M16 (u + 28) 1) + (mI M16 (u + 28) 2)) + (mI M16 (u + 28) 3)) + (mI M16 (u + 28) 4)) + (mI M16 (u + 28) 5)) = Int32.ofNat (amt V Y C crib f 0) := by
    rw [c1, c2, c3, c4, c5, nn_add, nn_add, nn_add, nn_add]; rfl
  rw [c0]
  refine So.ok ⟨E16.tr (Eo_sI (Or.inl rfl)), mI_e, fun w hw => ?_⟩
  by_cases z : w = 0
  · subst z; exact mI_e
  · show mI (sI M16 (u + 28) 0 _) (u + 28) w = _
    rw [mI_n2 z]
    obtain rfl | rfl | rfl | rfl | rfl : w = 1 ∨ w = 2 ∨ w = 3 ∨ w = 4 ∨ w = 5 := by omega
    · exact c1
    · exact c2
    · exact c3
    · exact c4
    · exact c5
