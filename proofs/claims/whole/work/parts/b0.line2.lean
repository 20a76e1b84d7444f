/-! ===== the line on both sides ===== -/
theorem sh_31 : ∀ r, r < 32 → (Int32.ofNat r &&& 31).toBitVec.smod 32 = BitVec.ofNat 32 r := by decide +kernel
theorem bv1 (y : BitVec 32) : (y &&& 1#32 = 1#32) ↔ y.getLsbD 0 = true := by
  rw [← BitVec.toNat_inj, BitVec.toNat_and, show (1#32).toNat = 1 from rfl, Nat.and_one_is_mod, ← BitVec.testBit_toNat, Nat.testBit_zero, decide_eq_true_eq]
theorem shr_bit {m r : Nat} (hr : r < 32) : (((Int32.ofNat m >>> (Int32.ofNat r &&& 31)) &&& 1) = 1) ↔ m.testBit r = true := by
  rw [← Int32.toBitVec_inj, Int32.toBitVec_and, Int32.toBitVec_shiftRight, sh_31 r hr]
  show (BitVec.sshiftRight' (BitVec.ofNat 32 m) (BitVec.ofNat 32 r) &&& 1#32 = 1#32) ↔ _
  rw [bv1, BitVec.sshiftRight_eq', BitVec.toNat_ofNat, Nat.mod_eq_of_lt (by omega : r < 2 ^ 32), BitVec.getLsbD_sshiftRight, Nat.add_zero, if_pos hr, BitVec.getLsbD_ofNat, decide_eq_true hr, Bool.true_and]
  simp
theorem neg_and {m lo q : Nat} (hm : m < 8192) (e : m = 2 ^ lo * (2 * q + 1)) : Int32.ofNat m &&& (-(Int32.ofNat m)) = Int32.ofNat (2 ^ lo) := by
  have h0 : m ≠ 0 := fun z => by
    have := Nat.two_pow_pos lo
    rw [z] at e
    have h2 : 0 < 2 ^ lo * (2 * q + 1) := Nat.mul_pos this (by omega)
    omega
  have hlo : lo < 13 := by
    apply Classical.byContradiction
    intro z
    have h1 : 2 ^ 13 ≤ 2 ^ lo := Nat.pow_le_pow_right (by decide) (by omega)
    have h2 : 2 ^ lo * 1 ≤ 2 ^ lo * (2 * q + 1) := Nat.mul_le_mul_left _ (by omega)
    omega
  have hp : 2 ^ lo < 2 ^ 13 := Nat.pow_lt_pow_right (by decide) hlo
  apply Int32.toBitVec_inj.mp
  apply BitVec.eq_of_toNat_eq
  rw [Int32.toBitVec_and, Int32.toBitVec_neg, BitVec.toNat_and, BitVec.toNat_neg]
  have t1 : (Int32.ofNat m).toBitVec.toNat = m := by
    show (BitVec.ofNat 32 m).toNat = m
    rw [BitVec.toNat_ofNat, Nat.mod_eq_of_lt (by omega)]
  have t2 : (Int32.ofNat (2 ^ lo)).toBitVec.toNat = 2 ^ lo := by
    show (BitVec.ofNat 32 (2 ^ lo)).toNat = 2 ^ lo
    rw [BitVec.toNat_ofNat, Nat.mod_eq_of_lt (by omega)]
  rw [t1, t2, Nat.mod_eq_of_lt (by omega)]
  apply Nat.eq_of_testBit_eq
  intro i
  rw [Nat.testBit_and, show 2 ^ 32 - m = 2 ^ 32 - ((m - 1) + 1) by omega, Nat.testBit_two_pow_sub_succ (by omega), odd_bit e i, odd_pred e i, Nat.testBit_two_pow]
  by_cases z : i < lo
  · rw [if_pos z, decide_eq_false (show ¬ lo = i by omega)]; rfl
  · rw [if_neg z, if_neg z]
    by_cases y : i = lo
    · rw [if_pos y, if_pos y, decide_eq_true (show i < 32 by omega), decide_eq_true (show lo = i by omega)]; rfl
    · rw [if_neg y, if_neg y, decide_eq_false (show ¬ lo = i by omega)]
      cases q.testBit (i - lo - 1) <;> simp
theorem gap_m {m k : Nat} (hm : m < 8192) (h0 : m ≠ 0) (hk : 3 ≤ k ∧ k < 9) : (Int32.ofNat m = (Int32.ofNat m &&& (-(Int32.ofNat m))) * ((1 <<< (Int32.ofNat k &&& 31)) - 1)) ↔ (List.range 13).any (fun lo => m == 2 ^ lo * (2 ^ k - 1)) = true := by
  obtain ⟨lo, q, e⟩ := nat_odd m h0
  have hlo : lo < 13 := by
    apply Classical.byContradiction
    intro z
    have h1 : 2 ^ 13 ≤ 2 ^ lo := Nat.pow_le_pow_right (by decide) (by omega)
    have h2 : 2 ^ lo * 1 ≤ 2 ^ lo * (2 * q + 1) := Nat.mul_le_mul_left _ (by omega)
    omega
  have hk2 : 2 ^ k ≤ 2 ^ 8 := Nat.pow_le_pow_right (by decide) (by omega)
  have hk3 : 0 < 2 ^ k := Nat.two_pow_pos k
  have hl2 : 2 ^ lo ≤ 2 ^ 12 := Nat.pow_le_pow_right (by decide) (by omega)
  have hmul : 2 ^ lo * (2 ^ k - 1) ≤ 2 ^ 12 * (2 ^ 8 - 1) := Nat.mul_le_mul hl2 (by omega)
  rw [neg_and hm e, sh_tab k (by omega), show Int32.ofNat (2 ^ k) - 1 = Int32.ofNat (2 ^ k - 1) from nn_sub (b := 1) (by omega) (by omega), nn_mul, nn_eq (by omega) (by omega), any13]
  constructor
  · intro h
    exact ⟨lo, hlo, by simpa using h⟩
  · rintro ⟨l, l1, l2⟩
    have l2 : m = 2 ^ l * (2 ^ k - 1) := by simpa using l2
    have b1 := odd_bit e lo
    have b2 := odd_bit e l
    rw [l2, win_bit, if_neg (by omega), if_pos rfl, decide_eq_true_eq] at b1
    rw [l2, win_bit, decide_eq_true (by omega)] at b2
    have : ¬ l < lo := fun z => by rw [if_pos z] at b2; cases b2
    rw [l2, show l = lo by omega]
theorem is_m {m r : Nat} (hr : r < 13) : FX12_is (Int32.ofNat m) (Int32.ofNat r) = some (if m.testBit r = true then 1 else 0) := by
  unfold FX12_is
  rw [jb1]
  by_cases z : m.testBit r = true
  · rw [if_neg (fun y => y ((shr_bit (by omega)).mpr z)), if_pos z]; rfl
  · rw [if_pos (fun y => z ((shr_bit (by omega)).mp y)), if_neg z]; rfl
theorem nn_or (a b : Nat) : Int32.ofNat a ||| Int32.ofNat b = Int32.ofNat (a ||| b) := by
  apply Int32.toBitVec_inj.mp
  rw [Int32.toBitVec_or]
  show BitVec.ofNat 32 a ||| BitVec.ofNat 32 b = BitVec.ofNat 32 (a ||| b)
  exact (BitVec.ofNat_or).symm
theorem nn_and (a b : Nat) : Int32.ofNat a &&& Int32.ofNat b = Int32.ofNat (a &&& b) := by
  apply Int32.toBitVec_inj.mp
  rw [Int32.toBitVec_and]
  show BitVec.ofNat 32 a &&& BitVec.ofNat 32 b = BitVec.ofNat 32 (a &&& b)
  exact (BitVec.ofNat_and).symm
theorem and_zero {m x : Nat} (hm : m < 8192) (hx : x < 13) : (Int32.ofNat m &&& Int32.ofNat (2 ^ x) = 0) ↔ m.testBit x = false := by
  have h1 : m &&& 2 ^ x ≤ m := Nat.and_le_left
  rw [nn_and, show (0 : Int32) = Int32.ofNat 0 from rfl, nn_eq (by omega) (by omega)]
  constructor
  · intro h
    have h2 : (m &&& 2 ^ x).testBit x = false := by rw [h, Nat.zero_testBit]
    rw [Nat.testBit_and, Nat.testBit_two_pow, decide_eq_true rfl, Bool.and_true] at h2
    exact h2
  · intro h
    apply Nat.eq_of_testBit_eq
    intro i
    rw [Nat.testBit_and, Nat.testBit_two_pow, Nat.zero_testBit]
    by_cases z : x = i
    · rw [← z, h]; rfl
    · rw [decide_eq_false z, Bool.and_false]
/-- the ranks of a line, the last first -/
def gL (L : Nat → Nat) (m i : Nat) : Nat := L (m - 1 - i) / 4
def LnC (A : Mem) (b m : Nat) (L : Nat → Nat) : Prop := m ≤ 8 ∧ mI A b 8 = Int32.ofNat m ∧ ∀ k, k < m → L k < 52 ∧ mI A (b + 3) k = Int32.ofNat (L k)
def LnR (r : Nat → Int32) (m : Nat) (L : Nat → Nat) : Prop := m ≤ 8 ∧ r 13 = Int32.ofNat m ∧ ∀ k, k < m → L k < 52 ∧ r (122 + k) = Int32.ofNat (L k)
theorem gL_lt {L : Nat → Nat} {m i : Nat} (h : ∀ k, k < m → L k < 52) (hi : i < m) : gL L m i < 13 := by
  have := h (m - 1 - i) (by omega)
  unfold gL; omega
theorem ofInt {v : Int32} {n : Nat} (h : v.toInt = n) (hn : n < 2147483648) : v = Int32.ofNat n := Int32.toInt_inj.mp (by rw [h, nn_int hn])
theorem alike_c {A : Mem} {b m : Nat} {L : Nat → Nat} (h : LnC A b m L) (hm : 1 ≤ m) : FX8_alikeAtEnd b A = some (Int32.ofNat (alF (gL L m) m)) := by
  obtain ⟨h1, h2, h3⟩ := h
  apply So.eq
  unfold FX8_alikeAtEnd
  have e1 : Int32.ofNat m - 1 = Int32.ofNat (m - 1) := nn_sub (b := 1) hm (by omega)
  rw [h2, e1]
  refine So_nm (So_wl2 (fun v2 v3 => ∃ k, k ≤ m ∧ v2 = Int32.ofNat k ∧ v3.toInt = (m : Int) - 1 - k ∧ ∀ i, i < k → gL L m i = gL L m 0) (fun v2 _ => 9 - ix v2) ?_ fuel 0 _ ⟨0, by omega, rfl, by rw [nn_int (by omega)]; omega, fun i hi => absurd hi (by omega)⟩ (by unfold fuel; omega))
  rintro v2 v3 rec ⟨k, hk, rfl, h4, h5⟩ hr
  refine So_jn0 (So.ite (fun z => So.ok ?_) (fun z => ?_))
  · have z := i_lt0.mp z
    rw [alF_eq hk h5 (Or.inl (by omega))]
  · have z : ¬ v3.toInt < 0 := fun y => z (i_lt0.mpr y)
    have hkm : k < m := by omega
    obtain rfl : v3 = Int32.ofNat (m - 1 - k) := ofInt (by omega) (by omega)
    rw [nn_ix (by omega), nn_ix (by omega), (h3 (m - 1 - k) (by omega)).2, (h3 (m - 1) (by omega)).2]
    have hL1 := (h3 (m - 1 - k) (by omega)).1
    have hL2 := (h3 (m - 1) (by omega)).1
    refine So_gd (inb_nn (by omega) (by decide)) (So_gd (inb_nn (by omega) (by decide)) ?_)
    rw [show (4 : Int32) = Int32.ofNat 4 from rfl, nn_div (by omega) (by decide), nn_div (by omega) (by decide)]
    have ek : (Int32.ofNat (L (m - 1 - k) / 4) = Int32.ofNat (L (m - 1) / 4)) ↔ gL L m k = gL L m 0 := nn_eq (by omega) (by omega)
    refine So.ite (fun y => So.ok ?_) (fun y => So_nm (So_nm ?_))
    · rw [alF_eq hk h5 (Or.inr (fun x => y (ek.mpr x)))]
    · have y := ek.mp (Classical.not_not.mp y)
      rw [s1]
      refine hr _ _ ⟨k + 1, by omega, rfl, ?_, fun i hi => ?_⟩ (by rw [nn_ix (by omega), nn_ix (by omega)]; omega)
      · rw [i_add] <;> rw [nn_int (by omega), show (-1 : Int32).toInt = -1 from rfl] <;> omega
      · by_cases x : i = k
        · rw [x]; exact y
        · exact h5 i (by omega)
theorem rnF_s {g : Nat → Nat} {k : Nat} : rnF g (k + 1) = if 3 ≤ k + 1 ∧ rnB g (k + 1) = true then k + 1 else rnF g k := rfl
theorem mk_ne {g : Nat → Nat} {k : Nat} (hk : 1 ≤ k) : mk g k ≠ 0 := fun z => by
  have : (mk g k).testBit (g 0) = true := mk_bit.mpr ⟨0, by omega, rfl⟩
  rw [z, Nat.zero_testBit] at this
  cases this
theorem run_c {A : Mem} {b m : Nat} {L : Nat → Nat} (h : LnC A b m L) : FX8_runAtEnd b A = some (Int32.ofNat (rnF (gL L m) m)) := by
  obtain ⟨h1, h2, h3⟩ := h
  have hg : ∀ i, i < m → gL L m i < 13 := fun i hi => gL_lt (fun k hk => (h3 k hk).1) hi
  apply So.eq
  unfold FX8_runAtEnd
  rw [h2]
  refine So_wl3 (fun v1 v2 v3 => ∃ k, k ≤ m ∧ v3 = Int32.ofNat (k + 1) ∧ v2 = Int32.ofNat (mk (gL L m) k) ∧ dis (gL L m) k = true ∧ v1 = Int32.ofNat (rnF (gL L m) k)) (fun _ _ v3 => 20 - ix v3) ?_ fuel 0 0 1 ⟨0, by omega, rfl, rfl, rfl, rfl⟩ (by unfold fuel; omega)
  rintro v1 v2 v3 rec ⟨k, hk, rfl, rfl, hd, rfl⟩ hr
  have hmk : mk (gL L m) k < 8192 := mk_lt (fun i hi => hg i (by omega))
  refine So.ite (fun z => So.ok ?_) (fun z => ?_)
  · have z := (nn_lt (by omega) (by omega)).mp z
    rw [show k = m by omega]
  · have z : ¬ m < k + 1 := fun y => z ((nn_lt (by omega) (by omega)).mpr y)
    have hgk := hg k (by omega)
    rw [nn_sub (show k + 1 ≤ m by omega) (by omega), nn_ix (by omega), (h3 (m - (k + 1)) (by omega)).2]
    have hL1 := (h3 (m - (k + 1)) (by omega)).1
    refine So_gd (inb_nn (by omega) (by decide)) (So_nm ?_)
    rw [show (4 : Int32) = Int32.ofNat 4 from rfl, nn_div (by omega) (by decide), show L (m - (k + 1)) / 4 = gL L m k from by unfold gL; rw [show m - 1 - k = m - (k + 1) by omega], sh_tab _ hgk]
    have ez := and_zero hmk hgk
    have dk : dis (gL L m) (k + 1) = !(mk (gL L m) k).testBit (gL L m k) := by
      show (dis (gL L m) k && _) = _
      rw [hd, Bool.true_and]
    refine So.ite (fun y => So_nm (So_nm ?_)) (fun y => So.ok ?_)
    · have y := ez.mp y
      rw [nn_or]
      rw [y] at dk
      have dk : dis (gL L m) (k + 1) = true := dk
      have hmk1 : mk (gL L m) (k + 1) < 8192 := mk_lt (fun i hi => hg i (by omega))
      show So (jn1 (fun v11 => nm (Int32.ofNat (k + 1) + 1) fun v14 => rec v11 (Int32.ofNat (mk (gL L m) (k + 1))) v14) fun j12 => if Int32.ofNat (k + 1) < 3 then j12 (Int32.ofNat (rnF (gL L m) k)) else if ¬Int32.ofNat (mk (gL L m) (k + 1)) = (Int32.ofNat (mk (gL L m) (k + 1)) &&& -Int32.ofNat (mk (gL L m) (k + 1))) * ((1 <<< (Int32.ofNat (k + 1) &&& 31)) - 1) then j12 (Int32.ofNat (rnF (gL L m) k)) else j12 (Int32.ofNat (k + 1))) _
      refine So_jn1R (fun v => v = Int32.ofNat (rnF (gL L m) (k + 1))) (fun v hv => So_nm ?_) (fun j12 h12 => ?_)
      · rw [s1]
        exact hr _ _ _ ⟨k + 1, by omega, rfl, rfl, dk, hv⟩ (by rw [nn_ix (by omega), nn_ix (by omega)]; omega)
      · refine So.ite (fun x => h12 _ ?_) (fun x => So.ite (fun w => h12 _ ?_) (fun w => h12 _ ?_))
        · have x := (nn_lt (b := 3) (by omega) (by omega)).mp x
          rw [rnF_s, if_neg (by omega)]
        · have x : ¬ k + 1 < 3 := fun q => x ((nn_lt (b := 3) (by omega) (by omega)).mpr q)
          rw [rnF_s, if_neg (fun q => w ((gap_m hmk1 (mk_ne (by omega)) (by omega)).mpr ?_))]
          have := q.2
          unfold rnB at this
          rw [dk, Bool.true_and] at this
          exact this
        · have x : ¬ k + 1 < 3 := fun q => x ((nn_lt (b := 3) (by omega) (by omega)).mpr q)
          have w := (gap_m hmk1 (mk_ne (by omega)) (by omega)).mp (Classical.not_not.mp w)
          rw [rnF_s, if_pos ⟨by omega, by unfold rnB; rw [dk, w]; rfl⟩]
    · have y : (mk (gL L m) k).testBit (gL L m k) = true := by
        cases hb : (mk (gL L m) k).testBit (gL L m k) with
        | true => rfl
        | false => exact absurd (ez.mpr hb) y
      rw [y] at dk
      have := rnF_stop (g := gL L m) (k := k) dk (m - k)
      rw [show k + (m - k) = m by omega] at this
      rw [this]
/-! the reference's -/
theorem lineCard_r {u m i : Nat} {L : Nat → Nat} {B : Mem} (h : LnR (mI B (u + 2)) m L) (hi : i < m) : FX12_lineCard u (Int32.ofNat i) B = some (Int32.ofNat (L (m - 1 - i))) := by
  obtain ⟨h1, h2, h3⟩ := h
  unfold FX12_lineCard
  rw [h2, show (122 : Int32) + Int32.ofNat m = Int32.ofNat (122 + m) from nn_add 122 m, show Int32.ofNat (122 + m) - 1 = Int32.ofNat (122 + m - 1) from nn_sub (b := 1) (by omega) (by omega), nn_sub (by omega) (by omega), nn_ix (by omega), gp (inb_nn (by omega) (by decide)), show 122 + m - 1 - i = 122 + (m - 1 - i) by omega, (h3 (m - 1 - i) (by omega)).2]
theorem lineRank_r {u m i : Nat} {L : Nat → Nat} {B : Mem} {τ : Type} {k : Int32 → Option τ} (h : LnR (mI B (u + 2)) m L) (hi : i < m) : ((FX12_lineCard u (Int32.ofNat i) B).bind fun r => (FX12_rankOf r).bind k) = k (Int32.ofNat (gL L m i)) := by
  rw [ob (lineCard_r h hi), ob (rankOf_nn (by have := (h.2.2 (m - 1 - i) (by omega)).1; omega))]; rfl
def prP (I : Nat → CI) (n : Nat) (deal mood : Int32) (g : Nat → Nat) (m : Nat) : Int32 := if 2 ≤ alF g m then cIt I n deal mood 2 2 (g 0) * Int32.ofNat (alF g m * (alF g m - 1) / 2) else 0
def rnP (I : Nat → CI) (n : Nat) (deal mood : Int32) (g : Nat → Nat) (m : Nat) : Int32 := if 3 ≤ rnF g m then cIt I n deal mood 3 2 (rnF g m) else 0
theorem linePairs_r {u n m : Nat} {I : Nat → CI} {deal mood : Int32} {L : Nat → Nat} {B : Mem} (h : RL u n I deal mood B) (hL : LnR (mI B (u + 2)) m L) (hm : 1 ≤ m) : So (FX12_linePairs u B) (fun x => TlE u B x.2 ∧ x.1 = prP I n deal mood (gL L m) m) := by
  obtain ⟨h1, h2, h3, h4⟩ := id h
  have hm8 := hL.1
  have hg : ∀ i, i < m → gL L m i < 13 := fun i hi => gL_lt (fun k hk => (hL.2.2 k hk).1) hi
  unfold FX12_linePairs
  rw [hL.2.1]
  refine So_wl1 (fun v1 => ∃ k, 1 ≤ k ∧ k ≤ m ∧ v1 = Int32.ofNat k ∧ ∀ i, i < k → gL L m i = gL L m 0) (fun v1 => 9 - ix v1) ?_ fuel 1 ⟨1, by omega, hm, rfl, fun i hi => by rw [show i = 0 by omega]⟩ (by unfold fuel; omega)
  rintro v1 rec ⟨k, k1, k2, rfl, h5⟩ hr
  refine So_jn0C (alF (gL L m) m = k) (fun ha => ?_) (fun j5 hj5 => ?_)
  · refine So_jn2R (fun v N => TlE u B N ∧ v = prP I n deal mood (gL L m) m) (fun v N hv => So.ok hv) (fun j9 h9 => ?_)
    have e2 : ((2 : Int32) ≤ Int32.ofNat k) ↔ 2 ≤ k := nn_le (a := 2) (by omega) (by omega)
    by_cases z : 2 ≤ k
    · rw [if_pos (e2.mpr z), show (0 : Int32) = Int32.ofNat 0 from rfl, lineRank_r hL (show 0 < m by omega)]
      refine So_bdM (countsAs_r (kind := 2) h1 h2 (by decide)) (fun v N hN => h9 _ _ ⟨hN.1, ?_⟩)
      have hv : v = cOf I n (mI B (u + 2) 8) (mI B (u + 2) 6) 2 (Int32.ofNat (gL L m 0)) (-1) 2 (-1) 2 := hN.2
      unfold prP
      rw [ha, if_pos z, hv, h3, h4, show Int32.ofNat k - 1 = Int32.ofNat (k - 1) from nn_sub (b := 1) (by omega) (by omega), nn_mul, show (2 : Int32) = Int32.ofNat 2 from rfl, nn_div (Nat.lt_of_le_of_lt (Nat.mul_le_mul (show k ≤ 8 by omega) (show k - 1 ≤ 8 by omega)) (by decide)) (by decide)]
      rfl
    · rw [if_neg (fun y => z (e2.mp y))]
      refine h9 _ _ ⟨TlE.rf, ?_⟩
      unfold prP
      rw [ha, if_neg z]
  · refine So.ite (fun z => hj5 ?_) (fun z => ?_)
    · have z := (nn_le (by omega) (by omega)).mp z
      exact alF_eq k2 h5 (Or.inl (by omega))
    · have z : k < m := by
        apply Classical.byContradiction
        intro y
        exact z ((nn_le (by omega) (by omega)).mpr (by omega))
      rw [lineRank_r hL z, show (0 : Int32) = Int32.ofNat 0 from rfl, lineRank_r hL (show 0 < m by omega)]
      have ek : (Int32.ofNat (gL L m k) = Int32.ofNat (gL L m 0)) ↔ gL L m k = gL L m 0 := nn_eq (by have := hg k z; omega) (by have := hg 0 (by omega); omega)
      refine So.ite (fun y => hj5 (alF_eq k2 h5 (Or.inr (fun x => y (ek.mpr x))))) (fun y => So_nm ?_)
      rw [s1]
      refine hr _ ⟨k + 1, by omega, by omega, rfl, fun i hi => ?_⟩ (by rw [nn_ix (by omega), nn_ix (by omega)]; omega)
      by_cases x : i = k
      · rw [x]; exact ek.mp (Classical.not_not.mp y)
      · exact h5 i (by omega)
theorem isRun_r {u m k : Nat} {L : Nat → Nat} {B : Mem} (hL : LnR (mI B (u + 2)) m L) (hk : 1 ≤ k ∧ k ≤ m) : FX12_isRun u (Int32.ofNat k) B = some (if rnB (gL L m) k = true then 1 else 0) := by
  have hm8 := hL.1
  have hg : ∀ i, i < m → gL L m i < 13 := fun i hi => gL_lt (fun k hk => (hL.2.2 k hk).1) hi
  apply So.eq
  unfold FX12_isRun
  refine So_wl5 (fun v1 v2 v3 v4 v5 => ∃ i, i ≤ k ∧ v5 = Int32.ofNat i ∧ v3 = Int32.ofNat (mk (gL L m) i) ∧ v4 = (if dis (gL L m) i = true then 1 else 0) ∧ ((i = 0 ∧ v1 = 13 ∧ v2 = -1) ∨ ∃ lo hi, v1 = Int32.ofNat lo ∧ v2 = Int32.ofNat hi ∧ (∀ j, j < i → lo ≤ gL L m j) ∧ (∃ j, j < i ∧ gL L m j = lo) ∧ (∀ j, j < i → gL L m j ≤ hi) ∧ ∃ j, j < i ∧ gL L m j = hi)) (fun _ _ _ _ v5 => 9 - ix v5) ?_ fuel 13 (-1) 0 1 0 ⟨0, by omega, rfl, rfl, rfl, Or.inl ⟨rfl, rfl, rfl⟩⟩ (by unfold fuel; omega)
  rintro v1 v2 v3 v4 v5 rec ⟨i, hi, rfl, rfl, rfl, hb⟩ hr
  refine So.ite (fun z => ?_) (fun z => ?_)
  · have z := (nn_le (by omega) (by omega)).mp z
    obtain rfl : i = k := by omega
    rcases hb with ⟨y, _⟩ | ⟨lo, hh, rfl, rfl, b1, ⟨j1, c1, c2⟩, b3, ⟨j2, c3, c4⟩⟩
    · omega
    have q1 := hg j1 (by omega)
    have q2 := hg j2 (by omega)
    have q3 := b1 j2 c3
    have hrn := rnB_hl (g := gL L m) (k := i) (lo := lo) (hi := hh) (by omega) (fun j hj => hg j (by omega)) b1 ⟨j1, c1, c2⟩ b3 ⟨j2, c3, c4⟩
    refine So_jn1R (fun v => v = if rnB (gL L m) i = true then 1 else 0) (fun v hv => So_gd (by rw [hv]; split <;> rfl) (So.ok hv)) (fun j9 h9 => ?_)
    refine So_jn0C (rnB (gL L m) i = false) (fun a => h9 _ (by rw [a]; rfl)) (fun j12 h12 => ?_)
    have no : ¬ (dis (gL L m) i = true ∧ hh = lo + (i - 1)) → rnB (gL L m) i = false := fun a => by
      cases hb : rnB (gL L m) i with
      | false => rfl
      | true => exact absurd (hrn.mp hb) a
    by_cases d : dis (gL L m) i = true
    · rw [if_pos d, if_neg (by decide), nn_sub (show lo ≤ hh by omega) (by omega), show Int32.ofNat i - 1 = Int32.ofNat (i - 1) from nn_sub (b := 1) (by omega) (by omega)]
      have ee : (Int32.ofNat (hh - lo) = Int32.ofNat (i - 1)) ↔ hh = lo + (i - 1) := by rw [nn_eq (by omega) (by omega)]; omega
      by_cases e : hh = lo + (i - 1)
      · rw [if_neg (fun y => y (ee.mpr e))]
        exact h9 _ (by rw [if_pos (hrn.mpr ⟨d, e⟩)])
      · rw [if_pos (fun y => e (ee.mp y))]
        exact h12 (no (fun a => e a.2))
    · rw [if_neg d, if_pos rfl]; exact h12 (no (fun a => d a.1))
  · have z : i < k := by
      apply Classical.byContradiction
      intro y
      exact z ((nn_le (by omega) (by omega)).mpr (by omega))
    have hgi := hg i (by omega)
    rw [lineRank_r hL (show i < m by omega)]
    have dk : dis (gL L m) (i + 1) = (dis (gL L m) i && !(mk (gL L m) i).testBit (gL L m i)) := rfl
    refine So_jn1R (fun v => v = if dis (gL L m) (i + 1) = true then 1 else 0) (fun v16 h16 => So_nm ?_) (fun j17 h17 => ?_)
    · rw [sh_tab _ hgi, nn_or]
      -- the lowest and the highest
      have step : ∀ (lo hh : Nat), (∀ j, j < i + 1 → lo ≤ gL L m j) → (∃ j, j < i + 1 ∧ gL L m j = lo) → (∀ j, j < i + 1 → gL L m j ≤ hh) → (∃ j, j < i + 1 ∧ gL L m j = hh) → So (nm (Int32.ofNat i + 1) fun v26 => rec (Int32.ofNat lo) (Int32.ofNat hh) (Int32.ofNat (mk (gL L m) i ||| 2 ^ gL L m i)) v16 v26) (fun r => r = if rnB (gL L m) k = true then 1 else 0) := fun lo hh a1 a2 a3 a4 => So_nm (by
        rw [s1]
        exact hr _ _ _ _ _ ⟨i + 1, by omega, rfl, rfl, h16, Or.inr ⟨lo, hh, rfl, rfl, a1, a2, a3, a4⟩⟩ (by rw [nn_ix (by omega), nn_ix (by omega)]; omega))
      rcases hb with ⟨y, rfl, rfl⟩ | ⟨lo, hh, rfl, rfl, b1, ⟨j1, c1, c2⟩, b3, ⟨j2, c3, c4⟩⟩
      · subst y
        have k1 : ¬ (13 : Int32) ≤ Int32.ofNat (gL L m 0) := nle (n := 13) hgi (by decide)
        have k2 : ¬ Int32.ofNat (gL L m 0) ≤ -1 := fun q => by
          rw [Int32.le_iff_toInt_le, nn_int (by omega), show (-1 : Int32).toInt = -1 from rfl] at q; omega
        refine So_jn1 ?_
        rw [if_neg k1]
        refine So_jn1 ?_
        rw [if_neg k2]
        exact step _ _ (fun j hj => by rw [show j = 0 by omega]; exact Nat.le_refl _) ⟨0, by omega, rfl⟩ (fun j hj => by rw [show j = 0 by omega]; exact Nat.le_refl _) ⟨0, by omega, rfl⟩
      · have q1 := hg j1 (by omega)
        have q2 := hg j2 (by omega)
        have el : (Int32.ofNat lo ≤ Int32.ofNat (gL L m i)) ↔ lo ≤ gL L m i := nn_le (by omega) (by omega)
        have eh : (Int32.ofNat (gL L m i) ≤ Int32.ofNat hh) ↔ gL L m i ≤ hh := nn_le (by omega) (by omega)
        have low : ∀ l, (l = if lo ≤ gL L m i then lo else gL L m i) → (∀ j, j < i + 1 → l ≤ gL L m j) ∧ ∃ j, j < i + 1 ∧ gL L m j = l := fun l hl => by
          by_cases x : lo ≤ gL L m i
          · rw [if_pos x] at hl
            refine ⟨fun j hj => ?_, j1, by omega, by omega⟩
            by_cases w : j = i
            · rw [w]; omega
            · have := b1 j (by omega); omega
          · rw [if_neg x] at hl
            refine ⟨fun j hj => ?_, i, by omega, by omega⟩
            by_cases w : j = i
            · rw [w]; omega
            · have := b1 j (by omega); omega
        have high : ∀ l, (l = if gL L m i ≤ hh then hh else gL L m i) → (∀ j, j < i + 1 → gL L m j ≤ l) ∧ ∃ j, j < i + 1 ∧ gL L m j = l := fun l hl => by
          by_cases x : gL L m i ≤ hh
          · rw [if_pos x] at hl
            refine ⟨fun j hj => ?_, j2, by omega, by omega⟩
            by_cases w : j = i
            · rw [w]; omega
            · have := b3 j (by omega); omega
          · rw [if_neg x] at hl
            refine ⟨fun j hj => ?_, i, by omega, by omega⟩
            by_cases w : j = i
            · rw [w]; omega
            · have := b3 j (by omega); omega
        refine So_jn1R (fun v => ∃ l, v = Int32.ofNat l ∧ l = if lo ≤ gL L m i then lo else gL L m i) (fun v20 h20 => ?_) (fun j21 h21 => ?_)
        · obtain ⟨l, rfl, hl⟩ := h20
          refine So_jn1R (fun v => ∃ l, v = Int32.ofNat l ∧ l = if gL L m i ≤ hh then hh else gL L m i) (fun v23 h23 => ?_) (fun j24 h24 => ?_)
          · obtain ⟨l2, rfl, hl2⟩ := h23
            exact step l l2 (low l hl).1 (low l hl).2 (high l2 hl2).1 (high l2 hl2).2
          · by_cases x : gL L m i ≤ hh
            · rw [if_pos (eh.mpr x)]; exact h24 _ ⟨hh, rfl, by rw [if_pos x]⟩
            · rw [if_neg (fun w => x (eh.mp w))]; exact h24 _ ⟨_, rfl, by rw [if_neg x]⟩
        · by_cases x : lo ≤ gL L m i
          · rw [if_pos (el.mpr x)]; exact h21 _ ⟨lo, rfl, by rw [if_pos x]⟩
          · rw [if_neg (fun w => x (el.mp w))]; exact h21 _ ⟨_, rfl, by rw [if_neg x]⟩
    · refine So_jn0C (dis (gL L m) (i + 1) = false) (fun a => h17 _ (by rw [a]; rfl)) (fun j27 h27 => ?_)
      by_cases d : dis (gL L m) i = true
      · rw [if_pos d, if_neg (by decide)]
        refine So.bindE (is_m hgi) ?_
        by_cases x : (mk (gL L m) i).testBit (gL L m i) = true
        · rw [if_pos x, if_pos (by decide)]
          exact h27 (by rw [dk, d, x]; rfl)
        · rw [if_neg x, if_neg (by decide)]
          rw [Bool.not_eq_true] at x
          exact h17 _ (by rw [dk, d, x]; rfl)
      · rw [if_neg d, if_pos rfl]
        rw [Bool.not_eq_true] at d
        exact h27 (by rw [dk, d]; rfl)
theorem m1 {k : Nat} (h1 : 1 ≤ k) (h2 : k < 2147483648) : Int32.ofNat k + (-1) = Int32.ofNat (k - 1) := by
  refine ofInt ?_ (by omega)
  rw [i_add] <;> rw [nn_int h2, show (-1 : Int32).toInt = -1 from rfl] <;> omega
theorem lineRun_r {u n m : Nat} {I : Nat → CI} {deal mood : Int32} {L : Nat → Nat} {B : Mem} (h : RL u n I deal mood B) (hL : LnR (mI B (u + 2)) m L) : So (FX12_lineRun u B) (fun x => TlE u B x.2 ∧ x.1 = rnP I n deal mood (gL L m) m) := by
  obtain ⟨h1, h2, h3, h4⟩ := id h
  have hm8 := hL.1
  unfold FX12_lineRun
  rw [hL.2.1]
  refine So_nm (So_wl1 (fun v => ∃ k, k ≤ m ∧ v = Int32.ofNat k ∧ rnF (gL L m) m = rnF (gL L m) k) (fun v => ix v) ?_ fuel _ ⟨m, by omega, rfl, rfl⟩ (by rw [nn_ix (by omega)]; unfold fuel; omega))
  rintro v rec ⟨k, k1, rfl, hk⟩ hr
  refine So_jn0C (rnF (gL L m) m = if 3 ≤ k then k else 0) (fun ha => ?_) (fun j6 h6 => ?_)
  · refine So_jn2R (fun v N => TlE u B N ∧ v = rnP I n deal mood (gL L m) m) (fun v N hv => So.ok hv) (fun j10 h10 => ?_)
    have e3 : ((3 : Int32) ≤ Int32.ofNat k) ↔ 3 ≤ k := nn_le (a := 3) (by omega) (by omega)
    by_cases z : 3 ≤ k
    · rw [if_pos z] at ha
      rw [if_pos (e3.mpr z)]
      refine So_bdM (countsAs_r (kind := 3) h1 h2 (by decide)) (fun v N hN => h10 _ _ ⟨hN.1, ?_⟩)
      have hv : v = cOf I n (mI B (u + 2) 8) (mI B (u + 2) 6) 3 (-1) (-1) (Int32.ofNat k) (-1) (Int32.ofNat k) := hN.2
      unfold rnP
      rw [ha, if_pos z, hv, h3, h4]; rfl
    · rw [if_neg z] at ha
      rw [if_neg (fun y => z (e3.mp y))]
      refine h10 _ _ ⟨TlE.rf, ?_⟩
      unfold rnP
      rw [ha, if_neg (by omega)]
  · have e2 : (Int32.ofNat k ≤ 2) ↔ k ≤ 2 := nn_le (b := 2) (by omega) (by omega)
    refine So.ite (fun z => h6 ?_) (fun z => ?_)
    · have z := e2.mp z
      rw [if_neg (by omega), hk]
      rcases rnF_3 (g := gL L m) k with y | y
      · exact y
      · have := rnF_le (g := gL L m) k; omega
    · have z : ¬ k ≤ 2 := fun y => z (e2.mpr y)
      obtain ⟨j, rfl⟩ : ∃ j, k = j + 1 := ⟨k - 1, by omega⟩
      refine So.bindE (isRun_r hL ⟨by omega, k1⟩) ?_
      by_cases y : rnB (gL L m) (j + 1) = true
      · rw [if_pos y, if_pos (by decide)]
        exact h6 (by rw [hk, rnF_s, if_pos ⟨by omega, y⟩, if_pos (by omega)])
      · rw [if_neg y, if_neg (by decide), m1 (by omega) (by omega)]
        exact So_nm (hr _ ⟨j, by omega, rfl, by rw [hk, rnF_s, if_neg (fun q => y q.2)]⟩ (by rw [nn_ix (by omega), nn_ix (by omega)]; omega))
