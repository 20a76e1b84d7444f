/-! ===== the class reckons a crib ===== -/
theorem ch_t0 : ∀ n, n < 53 → FX0_choose (Int64.ofNat n) 0 = some (Int64.ofNat 1) := by decide +kernel
theorem ch_t1 : ∀ n, n < 53 → FX0_choose (Int64.ofNat n) 1 = some (Int64.ofNat n) := by decide +kernel
theorem ch_t2 : ∀ n, n < 53 → FX0_choose (Int64.ofNat n) 2 = some (Int64.ofNat (c2 n)) := by decide +kernel
theorem ch_t3 : ∀ n, n < 53 → FX0_choose (Int64.ofNat n) 3 = some (Int64.ofNat (c3 n)) := by decide +kernel
def chN (k n : Nat) : Nat := if k = 0 then 1 else if k = 1 then n else if k = 2 then c2 n else c3 n
theorem ch_t {n k : Nat} (hn : n < 53) (hk : k < 4) : FX0_choose (Int64.ofNat n) (Int32.ofNat k) = some (Int64.ofNat (chN k n)) := by
  obtain rfl | rfl | rfl | rfl : k = 0 ∨ k = 1 ∨ k = 2 ∨ k = 3 := by omega
  · exact ch_t0 n hn
  · exact ch_t1 n hn
  · exact ch_t2 n hn
  · exact ch_t3 n hn
/-- the class is ready: all sorted -/
def CrS (A : Mem) (b ww Y : Nat) (V : Nat → Nat) (C : Nat → Nat → Nat → Nat) (w : Nat → Nat) (x y N : Nat) : Prop := mR A b 4 = some ww ∧ WV A ww V Y C ∧ mI A b 5 = Int32.ofNat x ∧ mI A b 6 = Int32.ofNat y ∧ mI A b 7 = Int32.ofNat N ∧ Srt A b V w 52
def cwT (V w F : Nat → Nat) (N k m j : Nat) : Nat := wy V w j m 52 * chN (3 - j) (N - j) * F (k + j)
theorem cw_T {V w F : Nat → Nat} {N k m : Nat} : cw V w F N k m = (if 2 ≤ k then cwT V w F N k m 0 else 0) + (if 1 ≤ k then cwT V w F N k m 1 else 0) + cwT V w F N k m 2 + cwT V w F N k m 3 := by
  unfold cw cwT
  show _ = (if 2 ≤ k then wy V w 0 m 52 * c3 N * F k else 0) + (if 1 ≤ k then wy V w 1 m 52 * c2 (N - 1) * F (k + 1) else 0) + wy V w 2 m 52 * (N - 2) * F (k + 2) + wy V w 3 m 52 * 1 * F (k + 3)
  rw [Nat.mul_one]
theorem cw_part {V w F : Nat → Nat} {N k m : Nat} (hk : k ≤ 2) : sm (fun i => cwT V w F N k m (2 - k + i)) (2 + k) = cw V w F N k m := by
  rw [cw_T]
  obtain rfl | rfl | rfl : k = 0 ∨ k = 1 ∨ k = 2 := by omega
  · show 0 + cwT V w F N 0 m 2 + cwT V w F N 0 m 3 = _
    rw [if_neg (by decide), if_neg (by decide)]
  · show 0 + cwT V w F N 1 m 1 + cwT V w F N 1 m 2 + cwT V w F N 1 m 3 = _
    rw [if_neg (by decide), if_pos (by decide)]
  · show 0 + cwT V w F N 2 m 0 + cwT V w F N 2 m 1 + cwT V w F N 2 m 2 + cwT V w F N 2 m 3 = _
    rw [if_pos (by decide), if_pos (by decide), Nat.zero_add]
theorem fifteensWith_c {A : Mem} {b ww Y x y N k m : Nat} {V w : Nat → Nat} {C : Nat → Nat → Nat → Nat} (h : CrS A b ww Y V C w x y N) (hN : N < 53) (hN3 : 3 ≤ N) (hk : k ≤ 2) (hm : m ≤ 31) : FX0_fifteensWith b (Int32.ofNat k) (Int32.ofNat m) A = some (Int64.ofNat (cw V w (C 1 1) N k m)) := by
  obtain ⟨r4, hW, _, _, r7, _, _, s3⟩ := h
  apply So.eq
  unfold FX0_fifteensWith
  have e2 : (2 : Int32) - Int32.ofNat k = Int32.ofNat (2 - k) := nn_sub (a := 2) (by omega) (by omega)
  rw [e2, imx0 (by omega)]
  refine So_nm (loop_acc (2 - k) 4 (by decide) (by omega) (fun j a => a = Int64.ofNat (sm (fun i => cwT V w (C 1 1) N k m (2 - k + i)) (j - (2 - k)))) 0 (by rw [Nat.sub_self]; rfl) (fun a rec ha => So_jn0 ?_) (fun j a rec sj hj ha hr => So_jn0 ?_))
  · rw [if_pos (show (3 : Int32) < Int32.ofNat 4 by decide), ha, show 4 - (2 - k) = 2 + k by omega, cw_part hk]
    exact So.ok rfl
  · rw [if_neg (show ¬ (3 : Int32) < Int32.ofNat j from fun z => by have := (nn_lt (a := 3) (by omega) (by omega)).mp z; omega), if_neg (show ¬ Int32.ofNat m < 0 from fun z => by have := (nn_lt (b := 0) (by omega) (by omega)).mp z; omega), if_neg (show ¬ (31 : Int32) < Int32.ofNat m from fun z => by have := (nn_lt (a := 31) (by omega) (by omega)).mp z; omega)]
    have e3 : mI A b 7 - Int32.ofNat j = Int32.ofNat (N - j) := by rw [r7]; exact nn_sub (by omega) (by omega)
    have e4 : (3 : Int32) - Int32.ofNat j = Int32.ofNat (3 - j) := nn_sub (a := 3) (by omega) (by omega)
    rw [e3, e4, i64_nn (by omega), nn_ix (by omega), nn_ix (by omega), r4, show b + 1 + 1 + 1 * j = b + 2 + j by omega, s3 j (by omega) m (by omega), nn_add]
    refine So_gd (inb_nn hj (by decide)) (So_gd (inb_nn (by omega) (by decide)) (So.bindE (ch_t (by omega) (by omega)) (So_nm ?_)))
    show So ((FX10_countOf ww 1 1 (Int32.ofNat (k + j)) A).bind _) _
    rw [ob (show FX10_countOf ww 1 1 (Int32.ofNat (k + j)) A = _ from hW.cnt (kind := 1) (pl := 1) (it := k + j) (by decide) (by decide) (by show 1 ≤ k + j; omega) (by show k + j < 9; omega) (by omega)), i64_nn (by have := hW.cle 1 1 (k + j); omega), jn_mul, jn_mul]
    refine So_nm (So_nm (hr _ ?_))
    rw [ha, jn_add, show j + 1 - (2 - k) = j - (2 - k) + 1 by omega, sm_s, show 2 - k + (j - (2 - k)) = j by omega]; rfl
theorem fifteensWith_n {A : Mem} {b k : Nat} {v : Int32} (hk : k ≤ 2) (hv : v.toInt < 0) : FX0_fifteensWith b (Int32.ofNat k) v A = some 0 := by
  apply So.eq
  unfold FX0_fifteensWith
  have e2 : (2 : Int32) - Int32.ofNat k = Int32.ofNat (2 - k) := nn_sub (a := 2) (by omega) (by omega)
  rw [e2, imx0 (by omega)]
  refine So_nm (loop_acc (2 - k) 4 (by decide) (by omega) (fun j a => a = 0) 0 rfl (fun a rec ha => So_jn0 ?_) (fun j a rec sj hj ha hr => So_jn0 ?_))
  · rw [if_pos (show (3 : Int32) < Int32.ofNat 4 by decide), ha]
    exact So.ok rfl
  · rw [if_neg (show ¬ (3 : Int32) < Int32.ofNat j from fun z => by have := (nn_lt (a := 3) (by omega) (by omega)).mp z; omega), if_pos (i_lt0.mpr hv), ha]
    exact So.ok rfl
theorem fifteens_c {A : Mem} {b ww Y x y N : Nat} {V w : Nat → Nat} {C : Nat → Nat → Nat → Nat} (h : CrS A b ww Y V C w x y N) (hN : N < 53) (hN3 : 3 ≤ N) (hx : x < 52) (hy : y < 52) : FX0_fifteens b A = some (Int64.ofNat (cw V w (C 1 1) N 0 Y + (if V x ≤ Y then cw V w (C 1 1) N 1 (Y - V x) else 0) + (if V y ≤ Y then cw V w (C 1 1) N 1 (Y - V y) else 0) + (if V x + V y ≤ Y then cw V w (C 1 1) N 2 (Y - (V x + V y)) else 0))) := by
  have h' := h
  obtain ⟨r4, hW, r5, r6, r7, _⟩ := h
  obtain ⟨t1, t2⟩ := hW.tgt
  have vx := hW.vle x
  have vy := hW.vle y
  have part : ∀ (k v : Nat), k ≤ 2 → v ≤ 62 → ∀ p : Int32, p.toInt = (Y : Int) - (v : Nat) → FX0_fifteensWith b (Int32.ofNat k) p A = some (Int64.ofNat (if v ≤ Y then cw V w (C 1 1) N k (Y - v) else 0)) := fun k v hk hv p hp => by
    by_cases z : v ≤ Y
    · rw [if_pos z]
      have : p = Int32.ofNat (Y - v) := by
        apply Int32.toInt_inj.mp
        rw [hp, nn_int (by omega)]; omega
      rw [this]
      exact fifteensWith_c h' hN hN3 hk (by omega)
    · rw [if_neg z]
      exact fifteensWith_n hk (by omega)
  have sub : ∀ (p : Int32) (a v : Nat), v ≤ 31 → (a ≤ 62) → p.toInt = (Y : Int) - a → (p - Int32.ofNat v).toInt = (Y : Int) - (a + v : Nat) := fun p a v hv ha hp => by
    rw [i_sub] <;> rw [hp, nn_int (by omega)] <;> omega
  apply So.eq
  unfold FX0_fifteens
  rw [r4]
  refine So_nm ?_
  show So (nm (some ww) fun v7 => v7.bind fun b10 => (FX10_valueOf b10 (mI A b 5) A).bind fun r13 => nm (mI A ww 4 - r13) fun v14 => nm (some ww) fun v15 => v15.bind fun b18 => nm (some ww) fun v21 => v21.bind fun b24 => (FX10_valueOf b24 (mI A b 6) A).bind fun r27 => nm (mI A b18 4 - r27) fun v28 => nm (some ww) fun v29 => v29.bind fun b32 => (FX0_fifteensWith b 0 (mI A b32 4) A).bind fun r35 => (FX0_fifteensWith b 1 v14 A).bind fun r36 => (FX0_fifteensWith b 1 v28 A).bind fun r37 => nm (some ww) fun v38 => v38.bind fun b41 => (FX10_valueOf b41 (mI A b 6) A).bind fun r44 => (FX0_fifteensWith b 2 (v14 - r44) A).bind fun r45 => some (((r35 + r36) + r37) + r45)) _
  refine So_nm ?_
  show So ((FX10_valueOf ww (mI A b 5) A).bind _) _
  rw [r5, ob (hW.val hx), t1]
  refine So_nm (So_nm ?_)
  show So (nm (some ww) fun v21 => v21.bind fun b24 => (FX10_valueOf b24 (mI A b 6) A).bind fun r27 => nm (mI A ww 4 - r27) fun v28 => nm (some ww) fun v29 => v29.bind fun b32 => (FX0_fifteensWith b 0 (mI A b32 4) A).bind fun r35 => (FX0_fifteensWith b 1 (Int32.ofNat Y - Int32.ofNat (V x)) A).bind fun r36 => (FX0_fifteensWith b 1 v28 A).bind fun r37 => nm (some ww) fun v38 => v38.bind fun b41 => (FX10_valueOf b41 (mI A b 6) A).bind fun r44 => (FX0_fifteensWith b 2 (Int32.ofNat Y - Int32.ofNat (V x) - r44) A).bind fun r45 => some (((r35 + r36) + r37) + r45)) _
  refine So_nm ?_
  show So ((FX10_valueOf ww (mI A b 6) A).bind _) _
  rw [r6, ob (hW.val hy), t1]
  refine So_nm (So_nm ?_)
  show So ((FX0_fifteensWith b 0 (mI A ww 4) A).bind _) _
  have p0 : (Int32.ofNat Y).toInt = (Y : Int) - (0 : Nat) := by rw [nn_int (by omega)]; omega
  have px := sub (Int32.ofNat Y) 0 (V x) vx.2 (by omega) p0
  have py := sub (Int32.ofNat Y) 0 (V y) vy.2 (by omega) p0
  rw [Nat.zero_add] at px py
  have pxy := sub _ (V x) (V y) vy.2 (by omega) px
  rw [t1, ob (show FX0_fifteensWith b 0 (Int32.ofNat Y) A = _ from part 0 0 (by omega) (by omega) _ p0), ob (show FX0_fifteensWith b 1 (Int32.ofNat Y - Int32.ofNat (V x)) A = _ from part 1 (V x) (by omega) (by omega) _ px), ob (show FX0_fifteensWith b 1 (Int32.ofNat Y - Int32.ofNat (V y)) A = _ from part 1 (V y) (by omega) (by omega) _ py)]
  refine So_nm ?_
  show So ((FX10_valueOf ww (Int32.ofNat y) A).bind _) _
  rw [ob (hW.val hy), ob (show FX0_fifteensWith b 2 (Int32.ofNat Y - Int32.ofNat (V x) - Int32.ofNat (V y)) A = _ from part 2 (V x + V y) (by omega) (by omega) _ pxy), jn_add, jn_add, jn_add, if_pos (Nat.zero_le _), Nat.sub_zero]
  exact So.ok rfl
theorem come_le {w : Nat → Nat} {r : Nat} (h : one01 w) : ∀ n, n ≤ 52 → come w r n ≤ 4 := by
  have key : ∀ n, n ≤ 52 → come w r n ≤ min (n - 4 * r) 4 := by
    intro n
    induction n with
    | zero => intro _; show 0 ≤ _; omega
    | succ n ih =>
      intro hn
      have i := ih (by omega)
      have e : come w r (n + 1) = come w r n + w n * (if n / 4 = r then 1 else 0) := g1_s
      rw [e]
      by_cases z : n / 4 = r
      · rw [if_pos z]
        rcases h n with y | y <;> rw [y] <;> omega
      · rw [if_neg z]; omega
  intro n hn
  have := key n hn
  omega
theorem pairs_c {A : Mem} {b ww Y x y N : Nat} {V w : Nat → Nat} {C : Nat → Nat → Nat → Nat} (h : CrS A b ww Y V C w x y N) (hw : one01 w) (hN : N < 53) (hN3 : 3 ≤ N) (hx : x < 52) (hy : y < 52) : FX0_pairs b A = some (Int64.ofNat (pw w (C 1 2) x y N)) := by
  obtain ⟨r4, hW, r5, r6, r7, s1', _⟩ := h
  apply So.eq
  unfold FX0_pairs pw
  refine loop_acc 0 13 (by decide) (by omega) (fun r a => a = Int64.ofNat (sm (fun r => (c2 (mine x y r) * c3 N + mine x y r * come w r 52 * c2 (N - 1) + c2 (come w r 52) * (N - 2)) * C 1 2 r) r)) 0 rfl (fun a rec ha => ?_) (fun r a rec _ hr ha hrec => ?_)
  · rw [if_pos (by decide), ha]
    exact So.ok rfl
  · rw [if_neg (show ¬ (13 : Int32) ≤ Int32.ofNat r from nle (n := 13) hr (by decide))]
    have dx : (mI A b 5 / 4 = Int32.ofNat r) ↔ x / 4 = r := by
      rw [r5, show Int32.ofNat x / 4 = Int32.ofNat (x / 4) from nn_div (b := 4) (by omega) (by decide), nn_eq (by omega) (by omega)]
    have dy : (mI A b 6 / 4 = Int32.ofNat r) ↔ y / 4 = r := by
      rw [r6, show Int32.ofNat y / 4 = Int32.ofNat (y / 4) from nn_div (b := 4) (by omega) (by decide), nn_eq (by omega) (by omega)]
    refine So_jn1R (fun v => v = Int32.ofNat (if x / 4 = r then 1 else 0)) (fun v hv => So_jn1R (fun v' => v' = Int32.ofNat (if y / 4 = r then 1 else 0)) (fun v' hv' => ?_) (fun j hj => ?_)) (fun j hj => ?_)
    · have em : (v + v').toInt64 = Int64.ofNat (mine x y r) := by
        rw [hv, hv', nn_add]
        have : (if x / 4 = r then 1 else 0) + (if y / 4 = r then 1 else 0) ≤ 2 := by split <;> split <;> omega
        exact i64_nn (by omega)
      have m2 : mine x y r ≤ 2 := by unfold mine; split <;> split <;> omega
      have c4 := come_le (r := r) hw 52 (by omega)
      have eN1 : mI A b 7 - 1 = Int32.ofNat (N - 1) := by rw [r7]; exact nn_sub (b := 1) (by omega) (by omega)
      have eN2 : mI A b 7 - 2 = Int32.ofNat (N - 2) := by rw [r7]; exact nn_sub (b := 2) (by omega) (by omega)
      rw [em, eN1, eN2, r7, nn_ix (by omega), s1' r hr, i64_nn (by omega), i64_nn (by omega), i64_nn (by omega), i64_nn (by omega)]
      refine So_nm (So_gd (inb_nn hr (by decide)) (So_nm ?_))
      rw [ob (ch_t2 (mine x y r) (by omega)), ob (ch_t3 N hN), ob (ch_t2 (N - 1) (by omega)), ob (ch_t2 (come w r 52) (by omega)), jn_mul, jn_mul, jn_mul, jn_mul, jn_add, jn_add]
      refine So_nm ?_
      rw [r4]
      refine So_nm ?_
      show So ((FX10_countOf ww 2 1 (Int32.ofNat r) A).bind _) _
      rw [ob (show FX10_countOf ww 2 1 (Int32.ofNat r) A = _ from hW.cnt (kind := 2) (pl := 1) (it := r) (by decide) (by decide) (by show 0 ≤ r; omega) (by show r < 13; omega) (by omega)), i64_nn (by have := hW.cle 1 2 r; omega), jn_mul]
      refine So_nm (So_nm (hrec _ ?_))
      rw [ha, jn_add, sm_s]
    · by_cases z : y / 4 = r
      · rw [if_neg (fun q => q (dy.mpr z))]; exact hj _ (by rw [if_pos z]; rfl)
      · rw [if_pos (fun q => z (dy.mp q))]; exact hj _ (by rw [if_neg z]; rfl)
    · by_cases z : x / 4 = r
      · rw [if_neg (fun q => q (dx.mpr z))]; exact hj _ (by rw [if_pos z]; rfl)
      · rw [if_pos (fun q => z (dx.mp q))]; exact hj _ (by rw [if_neg z]; rfl)
