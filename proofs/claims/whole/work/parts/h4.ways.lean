/-! ===== the class sorts the cards that can come ===== -/
theorem loop_down {τ : Type} {Q : τ → Prop} {step : Int32 → Mem → (Int32 → Mem → Option τ) → Option τ} (n : Nat) (hn : n < 900000) (I : Nat → Mem → Prop) (M0 : Mem) (h0 : I n M0) (h2 : ∀ i M rec, i ≤ n → I i M → (∀ M', 0 < i → I (i - 1) M' → So (rec (Int32.ofNat i + (-1)) M') Q) → So (step (Int32.ofNat i) M rec) Q) : So (wl2 step fuel (Int32.ofNat n) M0) Q := by
  refine So_wl2 (fun v M => ∃ i, i ≤ n ∧ v = Int32.ofNat i ∧ I i M) (fun v _ => ix v) ?_ fuel (Int32.ofNat n) M0 ⟨n, Nat.le_refl _, rfl, h0⟩ (by rw [nn_ix (by omega)]; unfold fuel; omega)
  rintro v M rec ⟨i, hi, rfl, hI⟩ hr
  refine h2 i M rec hi hI (fun M' hp hI' => ?_)
  have e : Int32.ofNat i + (-1) = Int32.ofNat (i - 1) := by
    rw [← Int32.sub_eq_add_neg]
    exact nn_sub (b := 1) (by omega) (by omega)
  rw [e]
  exact hr _ _ ⟨i - 1, by omega, rfl, hI'⟩ (by rw [nn_ix (by omega), nn_ix (by omega)]; omega)
theorem loop_acc {α τ : Type} {Q : τ → Prop} {step : α → Int32 → (α → Int32 → Option τ) → Option τ} (s n : Nat) (hn : n < 900000) (hs : s ≤ n) (I : Nat → α → Prop) (a0 : α) (h0 : I s a0) (h1 : ∀ a rec, I n a → So (step a (Int32.ofNat n) rec) Q) (h2 : ∀ i a rec, s ≤ i → i < n → I i a → (∀ a', I (i + 1) a' → So (rec a' (Int32.ofNat i + 1)) Q) → So (step a (Int32.ofNat i) rec) Q) : So (wl2 step fuel a0 (Int32.ofNat s)) Q := by
  refine So_wl2 (fun a v => ∃ i, s ≤ i ∧ i ≤ n ∧ v = Int32.ofNat i ∧ I i a) (fun _ v => n - ix v) ?_ fuel a0 (Int32.ofNat s) ⟨s, Nat.le_refl _, hs, rfl, h0⟩ (by unfold fuel; omega)
  rintro a v rec ⟨i, si, hi, rfl, hI⟩ hr
  by_cases z : i = n
  · subst z; exact h1 a rec hI
  · refine h2 i a rec si (by omega) hI (fun a' hI' => ?_)
    rw [s1]
    exact hr _ _ ⟨i + 1, by omega, by omega, rfl, hI'⟩ (by rw [nn_ix (by omega), nn_ix (by omega)]; omega)
theorem loop_accM {α τ : Type} {Q : τ → Prop} {step : α → Int32 → Mem → (α → Int32 → Mem → Option τ) → Option τ} (s n : Nat) (hn : n < 900000) (hs : s ≤ n) (I : Nat → α → Mem → Prop) (a0 : α) (M0 : Mem) (h0 : I s a0 M0) (h1 : ∀ a M rec, I n a M → So (step a (Int32.ofNat n) M rec) Q) (h2 : ∀ i a M rec, s ≤ i → i < n → I i a M → (∀ a' M', I (i + 1) a' M' → So (rec a' (Int32.ofNat i + 1) M') Q) → So (step a (Int32.ofNat i) M rec) Q) : So (wl3 step fuel a0 (Int32.ofNat s) M0) Q := by
  refine So_wl3 (fun a v M => ∃ i, s ≤ i ∧ i ≤ n ∧ v = Int32.ofNat i ∧ I i a M) (fun _ v _ => n - ix v) ?_ fuel a0 (Int32.ofNat s) M0 ⟨s, Nat.le_refl _, hs, rfl, h0⟩ (by unfold fuel; omega)
  rintro a v M rec ⟨i, si, hi, rfl, hI⟩ hr
  by_cases z : i = n
  · subst z; exact h1 a M rec hI
  · refine h2 i a M rec si (by omega) hI (fun a' M' hI' => ?_)
    rw [s1]
    exact hr _ _ _ ⟨i + 1, by omega, by omega, rfl, hI'⟩ (by rw [nn_ix (by omega), nn_ix (by omega)]; omega)
theorem fill1_c {p n : Nat} {v : Int64} {M : Mem} (hn : n < 900000) : So (FJ_Arrays_fill_1 p n v M) (fun N => Eo (fun q => q = p) M N ∧ ∀ k, k < n → mJ N p k = v) := by
  unfold FJ_Arrays_fill_1
  refine So_nm (loop_for n hn (fun i N => Eo (fun q => q = p) M N ∧ ∀ k, k < i → mJ N p k = v) M ⟨Eo.rf, fun k hk => absurd hk (by omega)⟩ (fun N rec hN => ?_) (fun i N rec hi hN hr => ?_))
  · exact So.ite (fun _ => So.ok hN) (fun z => absurd z (ge_self n))
  · refine So.ite (fun z => absurd z (nle hi (by omega))) (fun _ => ?_)
    rw [nn_ix (by omega)]
    refine So_gd (inb_nn hi (by omega)) (So_nm (So_nm (hr _ ⟨hN.1.tr (Eo_sJ rfl), fun k hk => ?_⟩)))
    by_cases z : k = i
    · rw [z, mJ_e]
    · rw [mJ_n2 z]; exact hN.2 k (by omega)
theorem addWays_c {b v : Nat} {M : Mem} (hv : 1 ≤ v ∧ v ≤ 31) : So (FX0_addWays b (Int32.ofNat v) M) (fun N => Eo (fun q => b + 3 ≤ q ∧ q < b + 6) M N ∧ ∀ j, j < 3 → ∀ m, m < 32 → mJ N (b + 3 + j) m = mJ M (b + 3 + j) m + if v ≤ m then mJ M (b + 2 + j) (m - v) else 0) := by
  unfold FX0_addWays
  refine loop_down 3 (by decide) (fun j N => Eo (fun q => b + 3 ≤ q ∧ q < b + 6) M N ∧ (∀ q, q < j → mJ N (b + 3 + q) = mJ M (b + 3 + q)) ∧ ∀ q, j ≤ q → q < 3 → ∀ m, m < 32 → mJ N (b + 3 + q) m = mJ M (b + 3 + q) m + if v ≤ m then mJ M (b + 2 + q) (m - v) else 0) M ⟨Eo.rf, fun _ _ => rfl, fun q a c => absurd a (by omega)⟩ (fun j N rec hj hN hr => ?_)
  obtain ⟨n1, n2, n3⟩ := hN
  by_cases z : j = 0
  · subst z
    rw [if_pos (by decide)]
    exact So.ok ⟨n1, fun q hq m hm => n3 q (by omega) hq m hm⟩
  rw [if_neg (show ¬ Int32.ofNat j < 1 from fun y => by have := (nn_lt (b := 1) (by omega) (by omega)).mp y; omega)]
  have lowj : mJ N (b + 2 + (j - 1)) = mJ M (b + 2 + (j - 1)) := by
    by_cases y : j = 1
    · subst y; exact (n1 (b + 2) (by omega)).2.1
    · have := n2 (j - 2) (by omega)
      rw [show b + 3 + (j - 2) = b + 2 + (j - 1) by omega] at this; exact this
  refine loop_down 31 (by decide) (fun i K => Eo (fun q => q = b + 2 + j) N K ∧ v ≤ i + 1 ∧ (∀ m, m ≤ i → mJ K (b + 2 + j) m = mJ N (b + 2 + j) m) ∧ ∀ m, i < m → m < 32 → mJ K (b + 2 + j) m = mJ M (b + 2 + j) m + mJ M (b + 2 + (j - 1)) (m - v)) N ⟨Eo.rf, by omega, fun _ _ => rfl, fun m a c => absurd a (by omega)⟩ (fun i K rec2 hi hK hr2 => So_jn0 ?_)
  obtain ⟨k1, k2, k3, k4⟩ := hK
  have nj : mJ N (b + 2 + j) = mJ M (b + 2 + j) := by
    have := n2 (j - 1) (by omega)
    rw [show b + 3 + (j - 1) = b + 2 + j by omega] at this; exact this
  by_cases y : i < v
  · rw [if_pos (show Int32.ofNat i < Int32.ofNat v from (nn_lt (by omega) (by omega)).mpr y)]
    refine So_nm (hr K (by omega) ⟨n1.tr (k1.up (fun q hq => by omega)), fun q hq => ?_, fun q q1 q2 m hm => ?_⟩)
    · rw [(k1 (b + 3 + q) (by omega)).2.1]; exact n2 q (by omega)
    · by_cases x : q = j - 1
      · subst x
        rw [show b + 3 + (j - 1) = b + 2 + j by omega]
        by_cases w : v ≤ m
        · rw [if_pos w]; exact k4 m (by omega) hm
        · rw [if_neg w, k3 m (by omega), nj, Int64.add_zero]
      · rw [(k1 (b + 3 + q) (by omega)).2.1]; exact n3 q (by omega) q2 m hm
  · rw [if_neg (show ¬ Int32.ofNat i < Int32.ofNat v from fun q => y ((nn_lt (by omega) (by omega)).mp q)), if_neg (show ¬ Int32.ofNat i < 1 from fun q => by have := (nn_lt (b := 1) (by omega) (by omega)).mp q; omega)]
    have ej : Int32.ofNat j - 1 = Int32.ofNat (j - 1) := nn_sub (b := 1) (by omega) (by omega)
    have ev : Int32.ofNat i - imx 0 (Int32.ofNat v) = Int32.ofNat (i - v) := by rw [imx0 (by omega)]; exact nn_sub (by omega) (by omega)
    rw [ej, ev, nn_ix (by omega), nn_ix (by omega), nn_ix (by omega), nn_ix (by omega), show b + 1 + 1 + 1 * j = b + 2 + j by omega, show b + 1 + 1 + 1 * (j - 1) = b + 2 + (j - 1) by omega]
    refine So_gd (inb_nn (by omega) (by decide)) (So_gd (inb_nn (by omega) (by decide)) (So_gd (inb_nn (by omega) (by decide)) (So_gd (inb_nn (by omega) (by decide)) (So_gd (inb_nn (by omega) (by decide)) (So_nm (So_nm (hr2 _ (by omega) ⟨k1.tr (Eo_sJ rfl), by omega, fun m hm => ?_, fun m m1 m2 => ?_⟩)))))))
    · rw [mJ_n2 (by omega)]; exact k3 m (by omega)
    · by_cases x : m = i
      · subst x
        rw [mJ_e, k3 m (Nat.le_refl _), nj, (k1 (b + 2 + (j - 1)) (by omega)).2.1, lowj]
      · rw [mJ_n2 x]; exact k4 m (by omega) m2
def wq (P : Nat → Bool) (c : Nat) : Nat := if P c = true then 1 else 0
theorem wq_01 {P : Nat → Bool} : one01 (wq P) := fun c => by
  unfold wq
  by_cases z : P c = true
  · rw [if_pos z]; exact Or.inr rfl
  · rw [if_neg z]; exact Or.inl rfl
/-- what is sorted of the first n cards -/
def Srt (N : Mem) (b : Nat) (V w : Nat → Nat) (n : Nat) : Prop := (∀ r, r < 13 → mI N (b + 6) r = Int32.ofNat (come w r n)) ∧ (∀ s, s < 4 → mI N (b + 7) s = Int32.ofNat (sut w s n)) ∧ ∀ j, j < 4 → ∀ m, m < 32 → mJ N (b + 2 + j) m = Int64.ofNat (wy V w j m n)
theorem jn_ite {p : Prop} [Decidable p] {a c : Nat} : (if p then Int64.ofNat a else Int64.ofNat c) = Int64.ofNat (if p then a else c) := by
  by_cases z : p
  · rw [if_pos z, if_pos z]
  · rw [if_neg z, if_neg z]
theorem sortFree_c {b ww Y : Nat} {V : Nat → Nat} {C : Nat → Nat → Nat → Nat} {P : Nat → Bool} {x : Int64} {M : Mem} (hd : ww + 12 ≤ b) (hW : WV M ww V Y C) (hr4 : mR M b 4 = some ww) (hx : Bs x P) : So (FX0_sortFree b x M) (fun N => Eo (fun q => b + 2 ≤ q ∧ q < b + 8) M N ∧ Srt N b V (wq P) 52) := by
  unfold FX0_sortFree
  refine So.bind (fill_c (p := b + 6) (n := 13) (v := 0) (by decide)) (fun M2 h2 => So.bind (fill_c (p := b + 7) (n := 4) (v := 0) (by decide)) (fun M4 h4 => ?_))
  have E4 : Eo (fun q => b + 2 ≤ q ∧ q < b + 8) M M4 := (h2.1.up (fun q hq => by omega)).tr (h4.1.up (fun q hq => by omega))
  have m6 : ∀ k, k < 13 → mI M4 (b + 6) k = 0 := fun k hk => by rw [(h4.1 (b + 6) (by omega)).1]; exact h2.2 k hk
  refine loop_for 4 (by decide) (fun i N => Eo (fun q => b + 2 ≤ q ∧ q < b + 6) M4 N ∧ ∀ j, j < i → ∀ m, m < 32 → mJ N (b + 2 + j) m = 0) M4 ⟨Eo.rf, fun j hj => absurd hj (by omega)⟩ (fun N rec hN => ?_) (fun i N rec hi hN hr => ?_)
  · obtain ⟨n1, n2⟩ := hN
    rw [if_pos (by decide)]
    refine So_nm ?_
    generalize hM11 : sJ N (b + 1 + 1 + 1 * 0) 0 1 = M11
    have E11 : Eo (fun q => b + 2 ≤ q ∧ q < b + 6) M4 M11 := by rw [← hM11]; exact n1.tr (Eo_sJ (by omega))
    have s0 : Srt M11 b V (wq P) 0 := by
      refine ⟨fun r hr => ?_, fun s hs => ?_, fun j hj m hm => ?_⟩
      · rw [(E11 (b + 6) (by omega)).1, m6 r hr]; rfl
      · rw [(E11 (b + 7) (by omega)).1, h4.2 s hs]; rfl
      · rw [← hM11]
        by_cases z : j = 0
        · subst z
          by_cases y : m = 0
          · subst y; rw [mJ_e]; rfl
          · rw [mJ_n2 y, n2 0 (by omega) m hm]
            show 0 = Int64.ofNat (if m = 0 then 1 else 0)
            rw [if_neg y]; rfl
        · rw [mJ_n1 (by omega), n2 j hj m hm]
          obtain rfl | rfl | rfl : j = 1 ∨ j = 2 ∨ j = 3 := by omega
          all_goals rfl
    refine loop_for 52 (by decide) (fun c K => Eo (fun q => b + 2 ≤ q ∧ q < b + 8) M11 K ∧ Srt K b V (wq P) c) M11 ⟨Eo.rf, s0⟩ (fun K rec2 hK => ?_) (fun c K rec2 hc hK hr2 => ?_)
    · rw [if_pos (by decide)]
      exact So.ok ⟨(E4.tr (E11.up (fun q hq => by omega))).tr hK.1, hK.2⟩
    · obtain ⟨k1, k2, k3, k4⟩ := hK
      rw [if_neg (show ¬ (52 : Int32) ≤ Int32.ofNat c from nle (n := 52) hc (by decide))]
      refine So.bindE (hx.has hc) (So_jn1 ?_)
      have ME : ∀ q, ¬ (b + 2 ≤ q ∧ q < b + 8) → Ea M K q := fun q hq => ((E4 q hq).tr (E11 q (by omega))).tr (k1 q hq)
      by_cases z : P c = true
      · rw [if_pos z, if_neg (by decide)]
        have w1 : wq P c = 1 := if_pos z
        have e4 : Int32.ofNat c / 4 = Int32.ofNat (c / 4) := nn_div (b := 4) (by omega) (by decide)
        have r4 : irm (Int32.ofNat c) 4 = Int32.ofNat (c % 4) := nn_rem (b := 4) (by omega) (by decide)
        rw [e4, r4, nn_ix (by omega), nn_ix (by omega), k2 _ (by omega), s1]
        refine So_gd (inb_nn (by omega) (by decide)) (So_gd (inb_nn (by omega) (by decide)) (So_nm (So_gd (inb_nn (by omega) (by decide)) (So_gd (inb_nn (by omega) (by decide)) ?_))))
        rw [show mI (sI K (b + 6) (c / 4) (Int32.ofNat (come (wq P) (c / 4) c + 1))) (b + 7) (c % 4) = Int32.ofNat (sut (wq P) (c % 4) c) by rw [mI_n1 (by omega)]; exact k3 _ (by omega), s1]
        refine So_nm ?_
        generalize hM27 : sI (sI K (b + 6) (c / 4) (Int32.ofNat (come (wq P) (c / 4) c + 1))) (b + 7) (c % 4) (Int32.ofNat (sut (wq P) (c % 4) c + 1)) = M27
        have E27 : Eo (fun q => q = b + 6 ∨ q = b + 7) K M27 := by rw [← hM27]; exact (Eo_sI (Or.inl rfl)).tr (Eo_sI (Or.inr rfl))
        have e27 : mR M27 b 4 = some ww := by rw [(E27 b (by omega)).2.2.1, (ME b (by omega)).2.2.1]; exact hr4
        have W27 : WV M27 ww V Y C := hW.keep (fun q q1 q2 => (ME q (by omega)).tr (E27 q (by omega)))
        rw [e27]
        refine So_nm ?_
        show So ((FX10_valueOf ww (Int32.ofNat c) M27).bind _) _
        rw [ob (W27.val hc)]
        refine So.bind (addWays_c (W27.vle c)) (fun M36 h36 => So_nm (hr2 _ ⟨(k1.tr (E27.up (fun q hq => by omega))).tr (h36.1.up (fun q hq => by omega)), fun r hr => ?_, fun s hs => ?_, fun j hj m hm => ?_⟩))
        · have ec : come (wq P) r (c + 1) = come (wq P) r c + (if c / 4 = r then 1 else 0) := by unfold come; rw [g1_s, w1, Nat.one_mul]
          rw [ec, (h36.1 (b + 6) (by omega)).1, ← hM27, mI_n1 (by omega)]
          by_cases y : r = c / 4
          · rw [y, mI_e, if_pos rfl]
          · rw [mI_n2 y, if_neg (fun q => y q.symm)]; exact k2 r hr
        · have ec : sut (wq P) s (c + 1) = sut (wq P) s c + (if c % 4 = s then 1 else 0) := by unfold sut; rw [g1_s, w1, Nat.one_mul]
          rw [ec, (h36.1 (b + 7) (by omega)).1, ← hM27]
          by_cases y : s = c % 4
          · rw [y, mI_e, if_pos rfl]
          · rw [mI_n2 y, mI_n1 (by omega), if_neg (fun q => y q.symm)]; exact k3 s hs
        · have kj : ∀ j, j < 4 → ∀ m, m < 32 → mJ M27 (b + 2 + j) m = Int64.ofNat (wy V (wq P) j m c) := fun j hj m hm => by
            rw [(E27 (b + 2 + j) (by omega)).2.1]; exact k4 j hj m hm
          by_cases y : j = 0
          · subst y
            rw [(h36.1 (b + 2 + 0) (by omega)).2.1, kj 0 (by omega) m hm]; rfl
          · have := h36.2 (j - 1) (by omega) m hm
            rw [show b + 3 + (j - 1) = b + 2 + j by omega] at this
            rw [this, kj j hj m hm]
            have ws := wy_s (V := V) (w := wq P) (j := j - 1) (m := m) (n := c) (by omega)
            rw [show j - 1 + 1 = j by omega, w1, Nat.one_mul] at ws
            rw [ws]
            by_cases x : V c ≤ m
            · rw [if_pos x, if_pos x, kj (j - 1) (by omega) (m - V c) (by omega), jn_add]
            · rw [if_neg x, if_neg x, Int64.add_zero, Nat.add_zero]
      · rw [if_neg z, if_pos rfl]
        have w0 : wq P c = 0 := if_neg z
        refine So_nm (hr2 _ ⟨k1, fun r hr => ?_, fun s hs => ?_, fun j hj m hm => ?_⟩)
        · rw [show come (wq P) r (c + 1) = come (wq P) r c by unfold come; rw [g1_s, w0, Nat.zero_mul, Nat.add_zero]]; exact k2 r hr
        · rw [show sut (wq P) s (c + 1) = sut (wq P) s c by unfold sut; rw [g1_s, w0, Nat.zero_mul, Nat.add_zero]]; exact k3 s hs
        · rw [k4 j hj m hm]
          by_cases y : j = 0
          · subst y; rfl
          · have ws := wy_s (V := V) (w := wq P) (j := j - 1) (m := m) (n := c) (by omega)
            rw [show j - 1 + 1 = j by omega, w0, Nat.zero_mul] at ws
            rw [ws, Nat.add_zero]
  · obtain ⟨n1, n2⟩ := hN
    rw [if_neg (show ¬ (4 : Int32) ≤ Int32.ofNat i from nle (n := 4) hi (by decide)), nn_ix (by omega)]
    refine So_gd (inb_nn hi (by decide)) (So.bind (fill1_c (p := b + 1 + 1 + 1 * i) (n := 32) (v := 0) (by decide)) (fun K hK => So_nm (hr _ ⟨n1.tr (hK.1.up (fun q hq => by omega)), fun j hj m hm => ?_⟩)))
    by_cases z : j = i
    · subst z
      have := hK.2 m hm
      rw [show b + 1 + 1 + 1 * j = b + 2 + j by omega] at this; exact this
    · rw [(hK.1 (b + 2 + j) (by omega)).2.1]; exact n2 j (by omega) m hm
