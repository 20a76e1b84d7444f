/-! ===== to play, as a function ===== -/
theorem countOf_c {w n kind pl it : Nat} {I : Nat → CI} {deal mood : Int32} {A : Mem} (hW : WTab A w I n deal mood) (hk : 1 ≤ kind ∧ kind ≤ 5) (hp : pl < 3) (h1 : fsI kind ≤ it) (h2 : it < laI kind) (h3 : it < 13) : FX10_countOf w (Int32.ofNat kind) (Int32.ofNat pl) (Int32.ofNat it) A = some (cIt I n deal mood kind pl it) := by
  have e := hW.2.2 kind hk.1 hk.2 pl hp it h1 h2
  have ng : ∀ k : Nat, k < 100 → ¬ Int32.ofNat k < 0 := fun k hk z => by
    have := i_lt0.mp z
    rw [nn_int (by omega)] at this; omega
  unfold FX10_countOf
  rw [jb, if_neg (ng kind (by omega)), if_neg (show ¬ (6 : Int32) ≤ Int32.ofNat kind from nle (n := 6) (by omega) (by decide)), if_neg (ng pl (by omega)), if_neg (show ¬ (3 : Int32) ≤ Int32.ofNat pl from nle (n := 3) hp (by decide)), if_neg (ng it (by omega)), if_pos (show Int32.ofNat it < 13 from (nn_lt (b := 13) (by omega) (by omega)).mpr h3), gp (inb_nn (by omega) (by decide)), show Int32.ofNat pl * 13 + Int32.ofNat it = Int32.ofNat (pl * 13 + it) from by rw [show (13 : Int32) = Int32.ofNat 13 from rfl, nn_mul, nn_add], gp (inb_nn (by omega) (by decide)), nn_ix (by omega), nn_ix (by omega), show w + 5 + 1 + 1 * kind = w + 6 + kind by omega, show pl * 13 + it = 13 * pl + it by omega, e]
theorem cIt_rg {I : Nat → CI} {n kind pl it : Nat} {deal mood : Int32} : 0 ≤ (cIt I n deal mood kind pl it).toInt ∧ (cIt I n deal mood kind pl it).toInt ≤ 99 := cOf_rg
/-- what the line's last card counts: of m cards, of count x, the target y -/
def lgP (I : Nat → CI) (n : Nat) (deal mood x y : Int32) (g : Nat → Nat) (m : Nat) : Int32 := ((if x = y then cIt I n deal mood 1 2 m else 0) + (if x = 31 then 2 else 0)) + (prP I n deal mood g m + rnP I n deal mood g m)
theorem prP_rg {I : Nat → CI} {n m : Nat} {deal mood : Int32} {g : Nat → Nat} (hm : m ≤ 8) : 0 ≤ (prP I n deal mood g m).toInt ∧ (prP I n deal mood g m).toInt ≤ 4000 := by
  unfold prP
  split
  · have h1 := cIt_rg (I := I) (n := n) (kind := 2) (pl := 2) (it := g 0) (deal := deal) (mood := mood)
    have h2 := alF_le (g := g) m
    have h3 : alF g m * (alF g m - 1) / 2 ≤ 28 := by
      have : alF g m * (alF g m - 1) ≤ 8 * 7 := Nat.mul_le_mul (by omega) (by omega)
      omega
    generalize alF g m * (alF g m - 1) / 2 = z at h3
    generalize cIt I n deal mood 2 2 (g 0) = c at h1
    have e : (c * Int32.ofNat z).toInt = c.toInt * (z : Int) := by
      have : 0 ≤ c.toInt * (z : Int) := Int.mul_nonneg h1.1 (by omega)
      have h5 : c.toInt * (z : Int) ≤ 99 * 28 := Int.mul_le_mul h1.2 (by omega) (by omega) (by omega)
      rw [i_mul] <;> rw [nn_int (by omega)] <;> omega
    have a1 : 0 ≤ c.toInt * (z : Int) := Int.mul_nonneg h1.1 (by omega)
    have a2 : c.toInt * (z : Int) ≤ 99 * 28 := Int.mul_le_mul h1.2 (by omega) (by omega) (by omega)
    omega
  · decide
theorem rnP_rg {I : Nat → CI} {n m : Nat} {deal mood : Int32} {g : Nat → Nat} : 0 ≤ (rnP I n deal mood g m).toInt ∧ (rnP I n deal mood g m).toInt ≤ 99 := by
  unfold rnP
  split
  · exact cIt_rg
  · decide
theorem lgP_rg {I : Nat → CI} {n m : Nat} {deal mood x y : Int32} {g : Nat → Nat} (hm : m ≤ 8) : 0 ≤ (lgP I n deal mood x y g m).toInt ∧ (lgP I n deal mood x y g m).toInt ≤ 5000 := by
  have h1 := prP_rg (I := I) (n := n) (deal := deal) (mood := mood) (g := g) hm
  have h2 := rnP_rg (I := I) (n := n) (m := m) (deal := deal) (mood := mood) (g := g)
  have h3 : 0 ≤ (if x = y then cIt I n deal mood 1 2 m else 0).toInt ∧ (if x = y then cIt I n deal mood 1 2 m else 0).toInt ≤ 99 := by
    split
    · exact cIt_rg
    · decide
  have h4 : 0 ≤ (if x = 31 then (2 : Int32) else 0).toInt ∧ (if x = 31 then (2 : Int32) else 0).toInt ≤ 2 := by split <;> decide
  unfold lgP
  generalize prP I n deal mood g m = a at h1
  generalize rnP I n deal mood g m = b at h2
  generalize (if x = y then cIt I n deal mood 1 2 m else 0) = c at h3
  generalize (if x = 31 then (2 : Int32) else 0) = d at h4
  have e1 : (a + b).toInt = a.toInt + b.toInt := i_add (by omega) (by omega)
  have e2 : (c + d).toInt = c.toInt + d.toInt := i_add (by omega) (by omega)
  have e3 : ((c + d) + (a + b)).toInt = (c + d).toInt + (a + b).toInt := i_add (by omega) (by omega)
  omega
theorem linePegs_c {b w n m : Nat} {I : Nat → CI} {deal mood : Int32} {L : Nat → Nat} {A : Mem} (hW : WTab A w I n deal mood) (hL : LnC A b m L) (hm : 1 ≤ m) : FX8_linePegs b w A = some (lgP I n deal mood (mI A b 9) (mI A w 4) (gL L m) m) := by
  apply So.eq
  have hm8 := hL.1
  have e8 := hL.2.1
  have al := alF_le (g := gL L m) m
  have rn := rnF_le (g := gL L m) m
  have hg0 : gL L m 0 < 13 := gL_lt (fun k hk => (hL.2.2 k hk).1) (by omega)
  have hL1 := hL.2.2 (m - 1) (by omega)
  unfold FX8_linePegs
  refine So_jn1R (fun v => v = if mI A b 9 = mI A w 4 then cIt I n deal mood 1 2 m else 0) (fun v1 h1 => ?_) (fun j2 h2 => ?_)
  · refine So_jn1R (fun v => v = (if mI A b 9 = mI A w 4 then cIt I n deal mood 1 2 m else 0) + (if mI A b 9 = 31 then 2 else 0)) (fun v4 h4 => ?_) (fun j5 h5 => ?_)
    · refine So.bindE (alike_c hL hm) (So_jn1R (fun v => v = v4 + prP I n deal mood (gL L m) m) (fun v8 h8 => ?_) (fun j9 h9 => ?_))
      · refine So.bindE (run_c hL) (So_jn1R (fun v => v = v8 + rnP I n deal mood (gL L m) m) (fun v12 h12 => So.ok ?_) (fun j13 h13 => ?_))
        · rw [h12, h8, h4]; unfold lgP
          rw [Int32.add_assoc]
        · have e3 : (Int32.ofNat (rnF (gL L m) m) < 3) ↔ rnF (gL L m) m < 3 := nn_lt (b := 3) (by omega) (by omega)
          by_cases z : rnF (gL L m) m < 3
          · rw [if_pos (e3.mpr z)]
            exact h13 _ (by unfold rnP; rw [if_neg (by omega), Int32.add_zero])
          · rw [if_neg (fun y => z (e3.mp y))]
            refine So.bindE (countOf_c (kind := 3) (pl := 2) hW (by decide) (by decide) (show 3 ≤ rnF (gL L m) m by omega) (show rnF (gL L m) m < 9 by omega) (by omega)) (So_nm (h13 _ ?_))
            unfold rnP; rw [if_pos (by omega)]
      · have e2 : (Int32.ofNat (alF (gL L m) m) < 2) ↔ alF (gL L m) m < 2 := nn_lt (b := 2) (by omega) (by omega)
        by_cases z : alF (gL L m) m < 2
        · rw [if_pos (e2.mpr z)]
          exact h9 _ (by unfold prP; rw [if_neg (by omega), Int32.add_zero])
        · rw [if_neg (fun y => z (e2.mp y)), e8, show Int32.ofNat m - 1 = Int32.ofNat (m - 1) from nn_sub (b := 1) (by omega) (by omega), nn_ix (by omega), hL1.2, show (4 : Int32) = Int32.ofNat 4 from rfl, nn_div (by omega) (by decide)]
          refine So_gd (inb_nn (by omega) (by decide)) (So.bindE (countOf_c (kind := 2) (pl := 2) hW (by decide) (by decide) (Nat.zero_le _) (show L (m - 1) / 4 < 13 by omega) (by omega)) (So_nm (h9 _ ?_)))
          unfold prP
          rw [if_pos (show 2 ≤ alF (gL L m) m by omega), show Int32.ofNat (alF (gL L m) m) - 1 = Int32.ofNat (alF (gL L m) m - 1) from nn_sub (b := 1) (by omega) (by omega), nn_mul, show (2 : Int32) = Int32.ofNat 2 from rfl, nn_div (Nat.lt_of_le_of_lt (Nat.mul_le_mul (show alF (gL L m) m ≤ 8 by omega) (show alF (gL L m) m - 1 ≤ 8 by omega)) (by decide)) (by decide)]
          rfl
    · by_cases z : mI A b 9 = 31
      · rw [if_neg (fun y => y z)]
        exact So_nm (h5 _ (by rw [h1, if_pos z]))
      · rw [if_pos z]
        exact h5 _ (by rw [h1, if_neg z, Int32.add_zero])
  · by_cases z : mI A b 9 = mI A w 4
    · rw [if_neg (fun y => y z), e8]
      exact So.bindE (countOf_c (kind := 1) (pl := 2) hW (by decide) (by decide) (show 1 ≤ m by omega) (show m < 9 by omega) (by omega)) (h2 _ (by rw [if_pos z]))
    · rw [if_pos z]; exact h2 _ (by rw [if_neg z])
/-- a card is put down -/
def ptA (V : Nat → Int32) (r : Nat → Int32) (c m : Nat) : Nat → Int32 := ru (ru (ru (ru (ru r (70 + c) 1) (122 + m) (Int32.ofNat c)) 13 (Int32.ofNat (m + 1))) 12 (r 12 + V c)) 15 (r 14)
def ptB (V : Nat → Int32) (Bd : Nat → Bool) (r : Nat → Int32) (p : Nat) : Nat → Int32 := ru r 14 (tnP V Bd r (Int32.ofNat (1 - p)) (Int32.ofNat p))
def ptC (r : Nat → Int32) : Nat → Int32 := ru (ru r 12 0) 13 0
def ptL (r : Nat → Int32) (m c : Nat) : Nat → Nat := fun k => if k = m then c else ix (r (122 + k))
def ptG (I : Nat → CI) (n : Nat) (deal mood : Int32) (r : Nat → Int32) (c m : Nat) : Int32 := lgP I n deal mood (r 12 + vOf I n deal mood c) (r 7) (gL (ptL r m c) (m + 1)) (m + 1)
/-- gain, row -/
def ptP (I : Nat → CI) (n : Nat) (deal mood : Int32) (r : Nat → Int32) (c m p : Nat) : Int32 × (Nat → Int32) :=
  if ptB (vOf I n deal mood) (bOf I n deal mood) (ptA (vOf I n deal mood) r c m) p 14 = -1 then (ptG I n deal mood r c m + (if r 12 + vOf I n deal mood c = 31 then 0 else 1), pgP (ptB (vOf I n deal mood) (bOf I n deal mood) (ptC (ptB (vOf I n deal mood) (bOf I n deal mood) (ptA (vOf I n deal mood) r c m) p)) p) p (ptG I n deal mood r c m + (if r 12 + vOf I n deal mood c = 31 then 0 else 1)))
  else (ptG I n deal mood r c m, pgP (ptB (vOf I n deal mood) (bOf I n deal mood) (ptA (vOf I n deal mood) r c m) p) p (ptG I n deal mood r c m))
/-- what must stand ahead of it -/
def PtH (V : Nat → Int32) (Bd : Nat → Bool) (r : Nat → Int32) (c m p : Nat) : Prop := c < 52 ∧ p < 2 ∧ r 9 = 2 ∧ r 14 = Int32.ofNat p ∧ r 13 = Int32.ofNat m ∧ m ≤ 8 ∧ canP V Bd r (Int32.ofNat p) c = true
theorem cs_or {P Q : Nat → Bool} : (cs (fun c => P c || Q c)).length ≤ (cs P).length + (cs Q).length := by
  unfold cs
  rw [← List.countP_eq_length_filter, ← List.countP_eq_length_filter, ← List.countP_eq_length_filter]
  generalize List.range 52 = l
  induction l with
  | nil => simp
  | cons a l ih =>
    rw [List.countP_cons, List.countP_cons, List.countP_cons]
    cases P a <;> cases Q a <;> simp <;> omega
theorem PtH.line {V : Nat → Int32} {Bd : Nat → Bool} {r : Nat → Int32} {c m p : Nat} (hV : TV r) (h : PtH V Bd r c m p) : m < 8 ∧ m + 1 ≤ (cs (fun d => decide (ru r (70 + c) 1 (70 + d) = 1))).length ∧ ∀ k, k < m → ∃ d, d < 52 ∧ r (122 + k) = Int32.ofNat d := by
  obtain ⟨hc, hp, h9, h14, h13, hm8, hcan⟩ := h
  obtain ⟨_, _, _, _, _, ⟨m', a1, a2, a3, a4⟩, _, _, _, _, _, _, h13', h14', _, _, _, _, h19⟩ := hV
  rw [h13] at a2
  unfold canP at hcan
  simp only [Bool.and_eq_true, decide_eq_true_eq, Bool.not_eq_true'] at hcan
  obtain ⟨⟨⟨x1, x2⟩, x3⟩, x4⟩ := hcan
  have hins : (cs (fun d => decide (ru r (70 + c) 1 (70 + d) = 1))).length = (cs (fun d => decide (r (70 + d) = 1))).length + 1 := by
    rw [← cs_ins (fun d => decide (r (70 + d) = 1)) c (decide_eq_false (by rw [x2]; decide)) hc]
    congr 1
    refine cs_cg (fun d hd => ?_)
    by_cases z : d = c
    · rw [z, ru_e]; simp
    · rw [ru_n (by omega)]; simp [z]
  obtain ⟨n0, n1, _⟩ := h19 (Or.inl h9)
  have hsub : (cs (fun d => decide (ru r (70 + c) 1 (70 + d) = 1))).length ≤ (cs (fun d => decide (r (18 + d) = 0) || decide (r (18 + d) = 1))).length := cs_sub (fun d hd hz => by
    by_cases z : d = c
    · rw [z, x1]
      obtain rfl | rfl : p = 0 ∨ p = 1 := by omega
      all_goals decide
    · rw [ru_n (by omega), decide_eq_true_eq] at hz
      rcases h14' d hd h9 hz with y | y <;> rw [y] <;> decide)
  have h8 := cs_or (P := fun d => decide (r (18 + d) = 0)) (Q := fun d => decide (r (18 + d) = 1))
  have hmm : m = m' := (nn_eq (by omega) (by omega)).mp a2
  subst hmm
  exact ⟨by omega, by omega, a4⟩
