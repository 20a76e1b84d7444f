/-! ===== what a law tells ===== -/
def tel (I : Nat → CI) (kind : Nat) (tl : Int32 → Int32) (wo : Int64) : Nat → Int64
  | 0 => wo
  | k + 1 => if (I k).1 = kind then (match hI (I k) tl with | some v => (if kind = 6 then 1 else v) | none => tel I kind tl wo k) else tel I kind tl wo k
/-- the law in force, by a row -/
def LwI (r : Nat → Int32) (f : Int32) (n : Nat) (I : Nat → CI) : Prop := (f = -1 ∧ n = 0) ∨ ∃ i len, i < 6 ∧ f = Int32.ofNat i ∧ RLw r (194 + 900 * i) n len I
theorem TlE_34 {u : Nat} {M : Mem} {v : Int32} : TlE u M (sI M u 34 v) := ⟨Eo_sI (Or.inl rfl), fun k h1 _ => by rw [mI_sI, if_neg (fun z => h1 z.2)], fun _ _ _ => rfl, rfl, rfl⟩
theorem TlE_18 {u k : Nat} {M : Mem} {v : Int64} : TlE u M (sJ M (u + 18) k v) := ⟨Eo_sJ (Or.inr (Or.inl rfl)), fun _ _ _ => rfl, fun j _ _ => by rw [mJ_sJ, if_neg (by omega)], rfl, rfl⟩
theorem tells_so {u n kind : Nat} {I : Nat → CI} {M : Mem} {rank suit size crib : Int32} {wo : Int64} (h : LwI (mI M (u + 2)) (mI M (u + 2) 2) n I) (h20 : mI M u 20 = 0) (hk : kind ≤ 6) : So (FX12_tells u (Int32.ofNat kind) rank suit size crib wo M) (fun r => TlE u M r.2 ∧ r.1 = tel I kind (wE (mI M (u + 2) 8) rank suit size crib (mI M (u + 2) 6)) wo n) := by
  unfold FX12_tells
  rcases h with ⟨hf, rfl⟩ | ⟨i, len, hi, hf, hL⟩
  · rw [if_neg (fun z => z hf)]
    exact So.ok ⟨TlE.rf, rfl⟩
  · have hp : 194 + 900 * i + 900 ≤ 5594 := by omega
    rw [if_pos (show ¬ mI M (u + 2) 2 = -1 from fun z => by
      rw [hf] at z
      have := congrArg Int32.toInt z
      rw [nn_int (by omega), show (-1 : Int32).toInt = -1 from rfl] at this; omega), hf]
    refine So_nm (So_nm (So_nm (So_nm (So_nm (So_nm (So_nm ?_))))))
    have ep : (194 : Int32) + 900 * Int32.ofNat i = Int32.ofNat (194 + 900 * i) := by
      rw [show (900 : Int32) = Int32.ofNat 900 from rfl, nn_mul]; exact nn_add 194 _
    rw [ep]
    generalize hp' : 194 + 900 * i = p at hL hp
    generalize hM17 : sJ (sJ (sJ (sJ (sJ (sJ (sI M u 34 (Int32.ofNat p)) (u + 18) 1 rank.toInt64) (u + 18) 2 suit.toInt64) (u + 18) 3 size.toInt64) (u + 18) 4 crib.toInt64) (u + 18) 5 _) (u + 18) 6 _ = M17
    have T17 : TlE u M M17 := by rw [← hM17]; exact (((((TlE_34.tr TlE_18).tr TlE_18).tr TlE_18).tr TlE_18).tr TlE_18).tr TlE_18
    have r17 : mI M17 (u + 2) = mI M (u + 2) := (T17.1 (u + 2) (by omega)).1
    have e34 : mI M17 u 34 = Int32.ofNat p := by rw [← hM17]; simp only [mI_sJ]; rw [mI_sI, if_pos ⟨rfl, rfl⟩]
    have S17 : SetM u M17 (mI M (u + 2) 8) rank suit size crib (mI M (u + 2) 6) := by
      rw [← hM17]
      refine ⟨?_, ?_, ?_, ?_, ?_, ?_⟩
      all_goals simp only [mJ_sJ, mI_sJ, mJ_sI, mI_sI, Nat.reduceEqDiff, and_false, if_false, and_self, if_true, true_and, Nat.add_right_cancel_iff, Nat.reduceAdd, Nat.add_left_cancel_iff]
      all_goals (rw [if_neg (by omega)])
    have f20 : mI M17 u 20 = 0 := by rw [T17.2.1 20 (by decide) (by decide)]; exact h20
    obtain ⟨l1, l2, l3, l4, l5, l6⟩ := hL
    refine So_wl3 (fun v j K => ∃ k, k ≤ n ∧ j = Int32.ofNat k ∧ TlE u M K ∧ mI K u 34 = Int32.ofNat p ∧ mJ K (u + 18) = mJ M17 (u + 18) ∧ v = tel I kind (wE (mI M (u + 2) 8) rank suit size crib (mI M (u + 2) 6)) wo k) (fun _ j _ => n - ix j) ?_ fuel wo 0 M17 ⟨0, by omega, rfl, T17, e34, rfl, rfl⟩ (by unfold fuel; omega)
    rintro v j K rec ⟨k, hk2, rfl, TK, k34, k18, rfl⟩ hr
    have rK : mI K (u + 2) = mI M (u + 2) := (TK.1 (u + 2) (by omega)).1
    have e1 : Int32.ofNat p + 1 = Int32.ofNat (p + 1) := s1 p
    rw [k34, e1, nn_ix (by omega), rK, l4]
    refine So_gd (inb_nn (by omega) (by decide)) ?_
    by_cases ce : k = n
    · subst ce
      rw [if_pos (Int32.le_refl _)]
      exact So.ok ⟨TK, rfl⟩
    · rw [if_neg (nle (show k < n by omega) (by omega))]
      have ek : Int32.ofNat p + 2 + 8 * Int32.ofNat k = Int32.ofNat (p + 2 + 8 * k) := by
        rw [show (2 : Int32) = Int32.ofNat 2 from rfl, show (8 : Int32) = Int32.ofNat 8 from rfl, nn_mul, nn_add, nn_add]
      obtain ⟨b1, b2, b3, c0, _⟩ := l5 k (by omega)
      have c0 : mI M (u + 2) (p + 2 + 8 * k) = Int32.ofNat (I k).1 := c0
      have hkk := (l6 k (by omega)).1
      refine So_nm ?_
      rw [ek, nn_ix (by omega), c0]
      refine So_gd (inb_nn (by omega) (by decide)) (So_jn2R (fun v' K' => TlE u M K' ∧ mI K' u 34 = Int32.ofNat p ∧ mJ K' (u + 18) = mJ M17 (u + 18) ∧ v' = tel I kind (wE (mI M (u + 2) 8) rank suit size crib (mI M (u + 2) 6)) wo (k + 1)) (fun v' K' hK' => So_nm ?_) (fun j30 hj30 => ?_))
      · rw [s1]
        exact hr _ _ _ ⟨k + 1, by omega, rfl, hK'⟩ (by rw [nn_ix (by omega), nn_ix (by omega)]; omega)
      · have ekk : (Int32.ofNat (I k).1 = Int32.ofNat kind) ↔ (I k).1 = kind := nn_eq (by omega) (by omega)
        by_cases z : (I k).1 = kind
        · rw [if_neg (fun y => y (ekk.mpr z))]
          have SK : SetM u K (mI M (u + 2) 8) rank suit size crib (mI M (u + 2) 6) := by
            unfold SetM; rw [k18]; exact S17
          refine So_bdM (isSo_r (p := p) (n := n) (len := len) (I := I) (by rw [rK]; exact ⟨l1, l2, l3, l4, l5, l6⟩) (by omega) (by rw [TK.2.1 20 (by decide) (by decide)]; exact h20) k34 SK) (fun r N hr' => ?_)
          obtain ⟨⟨q1, q2, q3⟩, q4⟩ := hr'
          have q1 : TlE u K N := q1
          have q2 : mI N u 34 = mI K u 34 := q2
          have q3 : mJ N (u + 18) = mJ K (u + 18) := q3
          rcases q4 with ⟨w, w1, w2, w3⟩ | ⟨w1, w2⟩
          · have w2 : r = 1 := w2
            have w3 : (I k).1 ≠ 6 → mJ N u 40 = w := w3
            rw [w2, if_neg (by decide)]
            refine So_jn1R (fun v' => v' = tel I kind (wE (mI M (u + 2) 8) rank suit size crib (mI M (u + 2) 6)) wo (k + 1)) (fun v' hv' => hj30 _ _ ⟨TK.tr q1, by rw [q2]; exact k34, by rw [q3]; exact k18, hv'⟩) (fun j36 hj36 => ?_)
            have e6 : (Int32.ofNat kind = 6) ↔ kind = 6 := nn_eq (b := 6) (by omega) (by omega)
            by_cases z6 : kind = 6
            · rw [if_neg (fun y => y (e6.mpr z6))]
              refine hj36 _ ?_
              unfold tel
              rw [if_pos z, w1]; simp only [if_pos z6]
            · rw [if_pos (fun y => z6 (e6.mp y))]
              refine hj36 _ ?_
              unfold tel
              rw [if_pos z, w1]; simp only [if_neg z6]; exact w3 (by omega)
          · have w2 : r = 0 := w2
            rw [w2, if_pos rfl]
            refine hj30 _ _ ⟨TK.tr q1, by rw [q2]; exact k34, by rw [q3]; exact k18, ?_⟩
            conv => rhs; unfold tel
            rw [if_pos z, w1]
        · rw [if_pos (fun y => z (ekk.mp y))]
          refine hj30 _ _ ⟨TK, k34, k18, ?_⟩
          conv => rhs; unfold tel
          rw [if_neg z]
def bdd (v : Int64) (lo hi : Int32) : Int32 := if lo.toInt ≤ v.toInt then (if v.toInt ≤ hi.toInt then v.toInt32 else hi) else lo
theorem bounded_eq (v : Int64) (lo hi : Int32) : FX12_bounded v lo hi = some (bdd v lo hi) := by
  unfold FX12_bounded jn1 bdd
  simp only []
  have e1 : (lo.toInt64 ≤ v) ↔ lo.toInt ≤ v.toInt := by rw [Int64.le_iff_toInt_le, j_int]
  have e2 : (v ≤ hi.toInt64) ↔ v.toInt ≤ hi.toInt := by rw [Int64.le_iff_toInt_le, j_int]
  by_cases c1 : lo.toInt ≤ v.toInt
  · rw [if_pos (e1.mpr c1), if_pos c1]
    by_cases c2 : v.toInt ≤ hi.toInt
    · rw [if_pos (e2.mpr c2), if_pos c2]
    · rw [if_neg (fun z => c2 (e2.mp z)), if_neg c2]
  · rw [if_neg (fun z => c1 (e1.mp z)), if_neg c1]
theorem within_eq {v : Int64} {lo hi : Int32} (h1 : -2147483648 ≤ v.toInt) (h2 : v.toInt < 2147483648) (h3 : lo.toInt ≤ hi.toInt) : FX11_within v.toInt32 lo hi = some (bdd v lo hi) := by
  unfold FX11_within imx imn bdd
  have e : v.toInt32.toInt = v.toInt := by rw [Int64.toInt_toInt32, i_bm h1 h2]
  have e1 : (v.toInt32 < hi) ↔ v.toInt < hi.toInt := by rw [Int32.lt_iff_toInt_lt, e]
  by_cases c1 : v.toInt < hi.toInt
  · rw [if_pos (e1.mpr c1)]
    have e2 : (lo < v.toInt32) ↔ lo.toInt < v.toInt := by rw [Int32.lt_iff_toInt_lt, e]
    by_cases c2 : lo.toInt < v.toInt
    · rw [if_pos (e2.mpr c2), if_pos (by omega), if_pos (by omega)]
    · rw [if_neg (fun z => c2 (e2.mp z))]
      by_cases c3 : lo.toInt ≤ v.toInt
      · rw [if_pos c3, if_pos (by omega)]
        congr 1
        apply Int32.toInt_inj.mp; rw [e]; omega
      · rw [if_neg c3]
  · rw [if_neg (fun z => c1 (e1.mp z))]
    by_cases c2 : lo < hi
    · rw [if_pos c2]
      by_cases c3 : lo.toInt ≤ v.toInt
      · rw [if_pos c3]
        by_cases c4 : v.toInt ≤ hi.toInt
        · rw [if_pos c4]
          congr 1
          apply Int32.toInt_inj.mp; rw [e]; omega
        · rw [if_neg c4]
      · rw [Int32.lt_iff_toInt_lt] at c2; omega
    · rw [if_neg c2]
      rw [Int32.lt_iff_toInt_lt] at c2
      have hlh : lo = hi := Int32.toInt_inj.mp (by omega)
      by_cases c3 : lo.toInt ≤ v.toInt
      · rw [if_pos c3]
        by_cases c4 : v.toInt ≤ hi.toInt
        · rw [if_pos c4]
          congr 1
          apply Int32.toInt_inj.mp; rw [e]; omega
        · rw [if_neg c4, hlh]
      · rw [if_neg c3]
/-- what a card, a count is worth by a law -/
def stdV (c : Nat) : Int64 := (Int32.ofNat (min 10 (c / 4 + 1))).toInt64
def vOf (I : Nat → CI) (n : Nat) (deal mood : Int32) (c : Nat) : Int32 := bdd (tel I 0 (wE deal (Int32.ofNat (c / 4)) (Int32.ofNat (c % 4)) (-1) (-1) mood) (stdV c) n) 1 31
def bOf (I : Nat → CI) (n : Nat) (deal mood : Int32) (c : Nat) : Bool := decide (tel I 6 (wE deal (Int32.ofNat (c / 4)) (Int32.ofNat (c % 4)) (-1) (-1) mood) 0 n = 1)
def cOf (I : Nat → CI) (n : Nat) (deal mood : Int32) (kind : Nat) (rank suit size crib wo : Int32) : Int32 := bdd (tel I kind (wE deal rank suit size crib mood) wo.toInt64 n) 0 99
theorem rankOf_nn {c : Nat} (h : c < 2147483648) : FX12_rankOf (Int32.ofNat c) = some (Int32.ofNat (c / 4)) := by
  show some (Int32.ofNat c / 4) = _
  rw [show (4 : Int32) = Int32.ofNat 4 from rfl, nn_div h (by decide)]
theorem valueOf_r {u n c : Nat} {I : Nat → CI} {M : Mem} (h : LwI (mI M (u + 2)) (mI M (u + 2) 2) n I) (h20 : mI M u 20 = 0) (hc : c < 52) : So (FX12_valueOf u (Int32.ofNat c) M) (fun r => TlE u M r.2 ∧ r.1 = vOf I n (mI M (u + 2) 8) (mI M (u + 2) 6) c) := by
  unfold FX12_valueOf
  refine So.bindE (rankOf_nn (by omega)) (So_jn1R (fun v => v.toInt64 = stdV c) (fun v hv => ?_) (fun j3 hj3 => ?_))
  · refine So.bindE (rankOf_nn (by omega)) ?_
    rw [show irm (Int32.ofNat c) 4 = Int32.ofNat (c % 4) from nn_rem (b := 4) (by omega) (by decide), hv]
    refine So_bdM (tells_so (kind := 0) h h20 (by decide)) (fun r N hr => ?_)
    rw [bounded_eq]
    refine So.bindE rfl (So.ok ⟨hr.1, ?_⟩)
    have : r = _ := hr.2
    rw [this]; rfl
  · have e10 : ((10 : Int32) ≤ Int32.ofNat (c / 4)) ↔ 10 ≤ c / 4 := nn_le (a := 10) (by omega) (by omega)
    by_cases z : 10 ≤ c / 4
    · rw [if_pos (e10.mpr z)]
      refine hj3 _ ?_
      unfold stdV; rw [show min 10 (c / 4 + 1) = 10 by omega]; rfl
    · rw [if_neg (fun y => z (e10.mp y))]
      refine So.bindE (rankOf_nn (by omega)) (hj3 _ ?_)
      unfold stdV; rw [s1, show min 10 (c / 4 + 1) = c / 4 + 1 by omega]
theorem isBarred_r {u n c : Nat} {I : Nat → CI} {M : Mem} (h : LwI (mI M (u + 2)) (mI M (u + 2) 2) n I) (h20 : mI M u 20 = 0) (hc : c < 52) : So (FX12_isBarred u (Int32.ofNat c) M) (fun r => TlE u M r.2 ∧ r.1 = if bOf I n (mI M (u + 2) 8) (mI M (u + 2) 6) c = true then 1 else 0) := by
  unfold FX12_isBarred
  refine So.bindE (rankOf_nn (by omega)) ?_
  rw [show irm (Int32.ofNat c) 4 = Int32.ofNat (c % 4) from nn_rem (b := 4) (by omega) (by decide)]
  refine So_bdM (tells_so (kind := 6) h h20 (by decide)) (fun r N hr => So_jn1 ?_)
  have hr2 : r = _ := hr.2
  rw [hr2]
  unfold bOf
  by_cases z : tel I 6 (wE (mI M (u + 2) 8) (Int32.ofNat (c / 4)) (Int32.ofNat (c % 4)) (-1) (-1) (mI M (u + 2) 6)) 0 n = 1
  · rw [if_neg (fun y => y z)]
    exact So_gd rfl (So.ok ⟨hr.1, by simp [z]⟩)
  · rw [if_pos z]
    exact So_gd rfl (So.ok ⟨hr.1, by simp [z]⟩)
theorem countsAs_r {u n kind : Nat} {I : Nat → CI} {M : Mem} {rank suit size crib wo : Int32} (h : LwI (mI M (u + 2)) (mI M (u + 2) 2) n I) (h20 : mI M u 20 = 0) (hk : kind ≤ 6) : So (FX12_countsAs u (Int32.ofNat kind) rank suit size crib wo M) (fun r => TlE u M r.2 ∧ r.1 = cOf I n (mI M (u + 2) 8) (mI M (u + 2) 6) kind rank suit size crib wo) := by
  unfold FX12_countsAs
  refine So_bdM (tells_so h h20 hk) (fun r N hr => ?_)
  rw [bounded_eq]
  refine So.bindE rfl (So.ok ⟨hr.1, ?_⟩)
  have : r = _ := hr.2
  rw [this]; rfl
