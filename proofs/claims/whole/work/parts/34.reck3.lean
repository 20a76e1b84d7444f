/-! ===== reckonAll, run ===== -/
theorem So_wl3n {τ α0 α1 α2 : Type} {Q : τ → Prop} {step : α0 → α1 → α2 → (α0 → α1 → α2 → Option τ) → Option τ} (I : Nat → α0 → α1 → α2 → Prop) (hs : ∀ k x0 x1 x2 rec, I k x0 x1 x2 → (∀ j y0 y1 y2, I j y0 y1 y2 → j < k → So (rec y0 y1 y2) Q) → So (step x0 x1 x2 rec) Q) : ∀ (n k : Nat) x0 x1 x2, I k x0 x1 x2 → k < n → So (wl3 step n x0 x1 x2) Q := by
  intro n
  induction n with
  | zero => intro k x0 x1 x2 _ h; omega
  | succ n ih =>
    intro k x0 x1 x2 hI hm
    exact hs k x0 x1 x2 _ hI (fun j y0 y1 y2 hy hl => ih j y0 y1 y2 hy (by omega))
def bot (s : List Int64) : Int64 := s.getD (s.length - 1) 0
theorem StK_push {u : Nat} {s : List Int64} {M : Mem} (v : Int64) (h : StK M u s) : StK (sJ M (u + 20) s.length v) u (v :: s) := by
  intro i hi
  simp only [List.length_cons] at hi
  rw [mJ_sJ]
  show (if u + 20 = u + 20 ∧ (s.length + 1) - 1 - i = s.length then v else mJ M (u + 20) ((s.length + 1) - 1 - i)) = _
  cases i with
  | zero => rw [if_pos ⟨rfl, by omega⟩]; rfl
  | succ i =>
    rw [if_neg (by omega), List.getD_cons_succ, ← h i (by omega)]
    congr 1; omega
theorem StK_tail {u : Nat} {s : List Int64} {x : Int64} {M : Mem} (h : StK M u (x :: s)) : StK M u s ∧ mJ M (u + 20) s.length = x := by
  refine ⟨fun i hi => ?_, ?_⟩
  · have := h (i + 1) (by simp only [List.length_cons]; omega)
    rw [List.getD_cons_succ] at this
    rw [← this]; simp only [List.length_cons]; congr 1; omega
  · have := h 0 (by simp)
    simpa using this
def rcQ (u : Nat) (res : Option (List Int64)) (N : Mem) : Prop := (res = none → mI N u 38 = 1) ∧ ∀ s, res = some s → mI N u 38 = 0 ∧ mJ N u 39 = bot s
theorem nn_pred (n : Nat) : Int32.ofNat (n + 1) + (-1) = Int32.ofNat n := by
  rw [← s1, Int32.add_assoc, show (1 : Int32) + -1 = 0 from by decide, Int32.add_zero]
theorem reckonAll_so {u lo hi n : Nat} {M : Mem} {co ca : Nat → Int32} {lv : Int32 → Int32 → Int64} {res : Option (List Int64)} (hM : RcM u M lo hi co ca lv) (hn : n < 1000) (hlo : lo ≤ 400) (hj : ∀ k, lo ≤ k → k < hi → ¬ (co k).toInt < 29 → (k : Int) < (ca k).toInt) (hres : rcP co ca lv hi n lo [] = some res) : So (FX12_reckonAll u (Int32.ofNat lo) (Int32.ofNat hi) M) (fun N => RcE u M N ∧ rcQ u res N) := by
  unfold FX12_reckonAll
  refine So_nm ?_
  refine So_wl3n (fun m h p N => ∃ q : Nat, ∃ s : List Int64, (lo ≤ q ∧ q < 2147483648) ∧ s.length ≤ 400 ∧ m ≤ 1001 ∧ p = Int32.ofNat q ∧ h = Int32.ofNat s.length ∧ RcE u M N ∧ ((mI N u 38 = 0 ∧ StK N u s ∧ rcP co ca lv hi m q s = some res) ∨ (mI N u 38 = 1 ∧ res = none))) ?_ fuel n 0 (Int32.ofNat lo) _ ⟨lo, [], ⟨Nat.le_refl _, by omega⟩, by simp, by omega, rfl, rfl, RcE_b 0, Or.inl ⟨by rw [mI_sI, if_pos ⟨rfl, rfl⟩], fun i hi => absurd hi (by simp), hres⟩⟩ (by unfold fuel; omega)
  rintro m h p N rec ⟨q, s, ⟨hlq, hq⟩, hs, hm, rfl, rfl, hE, hcase⟩ hr
  have hMN := hM.keep hE
  have hi4 : hi ≤ 400 := hM.1
  have fin : ((res = none ∧ mI N u 38 = 1) ∨ (res = some s ∧ mI N u 38 = 0 ∧ StK N u s)) → So (jn1 (fun (v9 : Int64) => nm (sJ N u 39 v9) fun M12 => some M12) fun j10 => if (Int32.ofNat s.length) ≤ 0 then j10 0 else j10 (mJ N (u + 20) 0)) (fun N => RcE u M N ∧ rcQ u res N) := by
    intro hf
    have key : ∀ v, (∀ s', res = some s' → v = bot s') → So (some (sJ N u 39 v)) (fun N => RcE u M N ∧ rcQ u res N) := fun v hv => by
      refine So.ok ⟨hE.tr (RcE_v _), fun z => ?_, fun s' z => ⟨?_, ?_⟩⟩
      · rcases hf with ⟨-, f⟩ | ⟨f, -⟩
        · exact f
        · rw [z] at f; cases f
      · rcases hf with ⟨f, -⟩ | ⟨-, f, -⟩
        · rw [z] at f; cases f
        · exact f
      · rw [mJ_sJ, if_pos ⟨rfl, rfl⟩]; exact hv s' z
    refine So_jn1 (So.ite (fun hc => So_nm (key _ (fun s' z => ?_))) (fun hc => So_nm (key _ (fun s' z => ?_))))
    · rcases hf with ⟨f, -⟩ | ⟨f, -, -⟩
      · rw [z] at f; cases f
      · rw [z] at f; cases f
        have : s.length = 0 := by have := (nn_le (b := 0) (by omega) (by omega)).mp hc; omega
        rw [List.length_eq_zero_iff.mp this]; rfl
    · rcases hf with ⟨f, -⟩ | ⟨f, -, f3⟩
      · rw [z] at f; cases f
      · rw [z] at f; cases f
        have : 0 < s.length := by
          have : ¬ s.length ≤ 0 := fun z => hc ((nn_le (b := 0) (by omega) (by omega)).mpr z)
          omega
        have := f3 (s.length - 1) (by omega)
        rw [show s.length - 1 - (s.length - 1) = 0 by omega] at this
        exact this
  refine So_jn0 ?_
  rcases hcase with ⟨h38, hK, hrc⟩ | ⟨h38, hn2⟩
  · cases m with
    | zero => simp [rcP] at hrc
    | succ m =>
      unfold rcP at hrc
      by_cases hhi : hi ≤ q
      · rw [if_pos hhi] at hrc
        rw [if_pos ((nn_le (by omega) (by omega)).mpr hhi)]
        exact fin (Or.inr ⟨by simpa using hrc.symm, h38, hK⟩)
      · rw [if_neg hhi] at hrc
        rw [if_neg (fun z => hhi ((nn_le (by omega) (by omega)).mp z)), h38, if_neg (by decide)]
        have hq4 : q < 400 := by omega
        have hqh : q < hi := by omega
        have nx : ∀ (q' : Nat) (s' : List Int64) (N' : Mem), (lo ≤ q' ∧ q' < 2147483648) → s'.length ≤ 400 → RcE u M N' → mI N' u 38 = 0 → StK N' u s' → rcP co ca lv hi m q' s' = some res → So (rec (Int32.ofNat s'.length) (Int32.ofNat q') N') (fun N => RcE u M N ∧ rcQ u res N) := fun q' s' N' b1 b2 b3 b4 b5 b6 => hr m _ _ _ ⟨q', s', b1, b2, by omega, rfl, rfl, b3, Or.inl ⟨b4, b5, b6⟩⟩ (by omega)
        have ix1 : ∀ o : Nat, Int32.ofNat o + 98 + 2 * Int32.ofNat q = Int32.ofNat (o + 98 + 2 * q) := fun o => by
          rw [show (98 : Int32) = Int32.ofNat 98 from rfl, show (2 : Int32) = Int32.ofNat 2 from rfl, nn_mul, nn_add, nn_add]
        refine So_jn1R (fun v => v = co q) (fun v14 e14 => ?_) (fun j15 hj15 => ?_)
        · subst e14
          refine So_jn1R (fun v => v = ca q) (fun v17 e17 => ?_) (fun j18 hj18 => ?_)
          · subst e17
            refine So_nm (So_jn3 ?_)
            rw [s1]
            by_cases c20 : (co q).toInt < 20
            · rw [if_neg (show ¬ (20 : Int32) ≤ co q by rw [Int32.le_iff_toInt_le, show (20 : Int32).toInt = 20 from rfl]; omega)]
              unfold rc1 at hrc
              rw [if_pos c20] at hrc
              by_cases hl : s.length < 400
              · rw [if_pos hl] at hrc
                refine So_jn1R (fun v => v = lv (co q) (ca q)) (fun v58 e58 => ?_) (fun j59 hj59 => ?_)
                · subst e58
                  refine So_gd (inb_nn hl (by decide)) (So_nm (So_nm ?_))
                  rw [nn_ix (by omega), s1]
                  exact nx (q + 1) (lv (co q) (ca q) :: s) _ ⟨by omega, by omega⟩ (by simp only [List.length_cons]; omega) (hE.tr (RcE_j _)) h38 (StK_push _ hK) hrc
                · rcases hMN.2 with ⟨a1, -, a5⟩ | ⟨a1, -, a3⟩
                  · obtain ⟨g1, g2, g3⟩ := a5 q hlq hqh c20
                    by_cases z : co q = 0
                    · rw [if_neg (fun n => n z)]; refine hj59 _ ?_; rw [g3, if_pos z]
                    · rw [if_pos z, a1, if_neg (fun n => n rfl)]
                      refine So_gd (inb_iff.mpr ⟨g1, by omega⟩) (hj59 _ ?_)
                      rw [g3, if_neg z]
                  · obtain ⟨g1, g2, g3⟩ := a3 q hlq hqh c20
                    by_cases z : co q = 0
                    · rw [if_neg (fun n => n z)]; refine hj59 _ ?_; rw [g3, if_pos z]
                    · rw [if_pos z, a1, if_pos (by decide)]
                      rw [if_neg z] at g3
                      by_cases z6 : (co q).toInt < 6
                      · rw [if_neg (show ¬ (6 : Int32) ≤ co q by rw [Int32.le_iff_toInt_le, show (6 : Int32).toInt = 6 from rfl]; omega)]
                        refine So_gd (inb_iff.mpr ⟨g1, by omega⟩) (hj59 _ ?_)
                        rw [g3, if_pos z6]
                      · rw [if_pos (show (6 : Int32) ≤ co q by rw [Int32.le_iff_toInt_le, show (6 : Int32).toInt = 6 from rfl]; omega)]
                        rw [if_neg z6] at g3
                        have g4 := g2.resolve_left z6
                        obtain ⟨n, hn1, hn⟩ := nn_exi g4.1
                        have hn2 : n < 12 := by have := g4.2; rw [hn, nn_int hn1] at this; omega
                        rw [hn, nn_ix hn1] at g3
                        rw [hn]
                        by_cases z7 : co q = 6
                        · rw [if_neg (fun n => n z7)]
                          rw [if_pos z7] at g3
                          have e16 : (16 : Int32) + Int32.ofNat n = Int32.ofNat (16 + n) := nn_add 16 n
                          rw [e16, nn_ix (by omega)]
                          exact So_gd (inb_nn (by omega) (by decide)) (hj59 _ (by rw [hn, g3]))
                        · rw [if_pos z7]
                          rw [if_neg z7] at g3
                          rw [show (6 : Int32) = Int32.ofNat 6 from rfl, nn_div hn1 (by decide), nn_rem hn1 (by decide), cardOf_eq u _ (n % 6) (by omega)]
                          exact hj59 _ (by rw [hn, g3])
              · rw [if_neg hl] at hrc; simp at hrc
            · rw [if_pos (show (20 : Int32) ≤ co q by rw [Int32.le_iff_toInt_le, show (20 : Int32).toInt = 20 from rfl]; omega)]
              unfold rc1 at hrc
              rw [if_neg c20] at hrc
              by_cases c28 : (co q).toInt < 28
              · rw [if_neg (show ¬ (28 : Int32) ≤ co q by rw [Int32.le_iff_toInt_le, show (28 : Int32).toInt = 28 from rfl]; omega)]
                rw [if_pos c28] at hrc
                match s, hs, hK, hrc with
                | [], _, _, hrc => simp at hrc
                | [_], _, _, hrc => simp at hrc
                | y :: x :: s', hs, hK, hrc =>
                  dsimp only at hrc
                  simp only [List.length_cons] at hs
                  have k1 := StK_tail hK
                  have k2 := StK_tail k1.1
                  have e1 : Int32.ofNat (y :: x :: s').length + (-1) = Int32.ofNat (s'.length + 1) := by
                    simp only [List.length_cons]; exact nn_pred _
                  have e2 : Int32.ofNat (s'.length + 1) - 1 = Int32.ofNat s'.length := nn_sub (b := 1) (by omega) (by omega)
                  refine So_nm ?_
                  rw [e1, e2]
                  rw [nn_ix (by omega), nn_ix (by omega)]
                  have i1 : inb (Int32.ofNat s'.length) 400 = true := inb_nn (by omega) (by decide)
                  have i2 : inb (Int32.ofNat (s'.length + 1)) 400 = true := inb_nn (by omega) (by decide)
                  refine So_gd i1 (So_gd i2 ?_)
                  simp only [List.length_cons] at k1
                  rw [k1.2, k2.2, reckon_so u _ _ _ _ h38]
                  simp only [bdM, Option.bind]
                  generalize hN1 : (if co q = 23 ∨ co q = 24 then sI N u 38 (if y = 0 then 1 else 0) else N) = N1
                  have r1 : RcE u N N1 := by
                    rw [← hN1]; split
                    · exact RcE_b _
                    · exact RcE.rf
                  have b1 : mI N1 u 38 = if rbk (co q) y = true then 1 else 0 := by
                    rw [← hN1]
                    unfold rbk
                    by_cases z : co q = 23 ∨ co q = 24
                    · rw [if_pos z, mI_sI, if_pos ⟨rfl, rfl⟩]; simp [z]
                    · rw [if_neg z, h38]; simp [z]
                  have j1 : mJ N1 (u + 20) = mJ N (u + 20) := by
                    rw [← hN1]; split <;> rfl
                  refine So_gd i1 (So_nm (So_jn1 (So_jn0 ?_)))
                  have e45 : mI (sJ N1 (u + 20) s'.length (rbin (co q) x y)) u 38 = mI N1 u 38 := rfl
                  have hS' : ∀ v, StK (sI (sJ N1 (u + 20) s'.length (rbin (co q) x y)) u 38 v) u (rbin (co q) x y :: s') := fun v => by
                    have : StK N1 u s' := fun i hi => by rw [j1]; exact k2.1 i hi
                    have := StK_push (rbin (co q) x y) this
                    exact fun i hi => this i hi
                  have w1 : ∀ v, RcE u M (sI (sJ N1 (u + 20) s'.length (rbin (co q) x y)) u 38 v) := fun v => ((hE.tr r1).tr (RcE_j _)).tr (RcE_b v)
                  have fl : ∀ N', RcE u M N' → mI N' u 38 = 1 → res = none → So (rec (Int32.ofNat (s'.length + 1)) (Int32.ofNat (q + 1)) N') (fun N => RcE u M N ∧ rcQ u res N) := fun N' b1 b2 b3 => hr m _ _ _ ⟨q + 1, rbin (co q) x y :: s', ⟨by omega, by omega⟩, by simp only [List.length_cons]; omega, by omega, rfl, rfl, b1, Or.inr ⟨b2, b3⟩⟩ (by omega)
                  rw [e45, b1]
                  by_cases zb : rbk (co q) y = true
                  · rw [if_pos zb, if_pos (by decide)]
                    refine So_gd rfl (So_nm ?_)
                    rw [if_pos (Or.inl zb)] at hrc
                    refine fl _ (w1 1) (by rw [mI_sI, if_pos ⟨rfl, rfl⟩]) ?_
                    simpa using hrc.symm
                  · rw [if_neg zb, if_neg (by decide)]
                    refine So_gd i1 ?_
                    rw [mJ_sJ, if_pos ⟨rfl, rfl⟩, in_eq]
                    show So (if ¬ (if (-1000000000 : Int64).toInt ≤ (rbin (co q) x y).toInt ∧ (rbin (co q) x y).toInt ≤ (1000000000 : Int64).toInt then (1 : Int32) else 0) = 0 then _ else _) _
                    rw [show (-1000000000 : Int64).toInt = -1000000000 from rfl, show (1000000000 : Int64).toInt = 1000000000 from rfl]
                    by_cases zr : -1000000000 ≤ (rbin (co q) x y).toInt ∧ (rbin (co q) x y).toInt ≤ 1000000000
                    · rw [if_pos zr, if_pos (by decide)]
                      refine So_gd rfl (So_nm ?_)
                      rw [if_neg (fun z => z.elim zb (fun z => z zr))] at hrc
                      exact nx (q + 1) (rbin (co q) x y :: s') _ ⟨by omega, by omega⟩ (by simp only [List.length_cons]; omega) (w1 0) (by rw [mI_sI, if_pos ⟨rfl, rfl⟩]) (hS' 0) hrc
                    · rw [if_neg zr, if_neg (by decide)]
                      refine So_gd rfl (So_nm ?_)
                      rw [if_pos (Or.inr zr)] at hrc
                      refine fl _ (w1 1) (by rw [mI_sI, if_pos ⟨rfl, rfl⟩]) ?_
                      simpa using hrc.symm
              · rw [if_pos (show (28 : Int32) ≤ co q by rw [Int32.le_iff_toInt_le, show (28 : Int32).toInt = 28 from rfl]; omega)]
                rw [if_neg c28] at hrc
                match s, hs, hK, hrc with
                | [], _, _, hrc => by_cases z28 : co q = 28 <;> simp [z28] at hrc
                | x :: s', hs, hK, hrc =>
                  dsimp only at hrc
                  simp only [List.length_cons] at hs
                  have k1 := StK_tail hK
                  have e2 : Int32.ofNat (x :: s').length - 1 = Int32.ofNat s'.length := nn_sub (b := 1) (by simp) (by simp only [List.length_cons]; omega)
                  have e3 : Int32.ofNat (x :: s').length + (-1) = Int32.ofNat s'.length := nn_pred _
                  have i1 : inb (Int32.ofNat s'.length) 400 = true := inb_nn (by omega) (by decide)
                  rw [e2, nn_ix (by omega), k1.2]
                  by_cases z28 : co q = 28
                  · rw [if_neg (fun n => n z28)]
                    rw [if_pos z28] at hrc
                    refine So_gd i1 (So_gd i1 (So_nm ?_))
                    exact nx (q + 1) ((1 - x) :: s') _ ⟨by omega, by omega⟩ (by simp only [List.length_cons]; omega) (hE.tr (RcE_j _)) h38 (StK_push _ k1.1) hrc
                  · rw [if_pos z28]
                    rw [if_neg z28] at hrc
                    refine So_gd i1 (So_jn1R (fun v => v = if co q = 29 then 0 else 1) (fun v28 e28 => ?_) (fun j29 hj29 => ?_))
                    · subst e28
                      by_cases zx : x = (if co q = 29 then 0 else 1)
                      · rw [if_neg (fun n => n zx)]
                        rw [if_pos zx] at hrc
                        have hjj : (q : Int) < (ca q).toInt := by
                          refine hj q hlq hqh ?_
                          have n28 : (co q).toInt ≠ 28 := fun z => z28 (Int32.toInt_inj.mp z)
                          omega
                        have hnn : 0 ≤ (ca q).toInt := by omega
                        rw [← nn_of hnn]
                        have := (ca q).toInt_lt
                        exact nx (ix (ca q)) (x :: s') _ ⟨by rw [ix_def]; omega, by rw [ix_def]; omega⟩ (by simp only [List.length_cons]; omega) hE h38 hK hrc
                      · rw [if_pos zx]
                        rw [if_neg zx] at hrc
                        refine So_nm ?_
                        rw [e3]
                        exact nx (q + 1) s' _ ⟨by omega, by omega⟩ (by omega) hE h38 k1.1 hrc
                    · by_cases z29 : co q = 29
                      · rw [if_neg (fun n => n z29)]; exact hj29 _ (by rw [if_pos z29])
                      · rw [if_pos z29]; exact hj29 _ (by rw [if_neg z29])
          · rcases hMN.2 with ⟨a1, ⟨o, a2, a3, a4⟩, -⟩ | ⟨a1, a2, -⟩
            · rw [a1, if_pos rfl, a2, ix1, s1, nn_ix (by omega)]
              exact So_gd (inb_nn (by omega) (by decide)) (hj18 _ (a4 q hlq hqh).2)
            · rw [a1, if_neg (by decide), nn_ix (by omega)]
              exact So_gd (inb_nn hq4 (by decide)) (hj18 _ (a2 q hlq hqh).2)
        · rcases hMN.2 with ⟨a1, ⟨o, a2, a3, a4⟩, -⟩ | ⟨a1, a2, -⟩
          · rw [a1, if_pos rfl, a2, ix1, nn_ix (by omega)]
            exact So_gd (inb_nn (by omega) (by decide)) (hj15 _ (a4 q hlq hqh).1)
          · rw [a1, if_neg (by decide), nn_ix (by omega)]
            exact So_gd (inb_nn hq4 (by decide)) (hj15 _ (a2 q hlq hqh).1)
  · have fn := fin (Or.inl ⟨hn2, h38⟩)
    refine So.ite (fun _ => fn) (fun _ => ?_)
    rw [h38, if_pos (by decide)]; exact fn
