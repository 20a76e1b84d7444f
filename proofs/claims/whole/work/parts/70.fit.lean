/-! ===== what a law tells: the class's tables ===== -/
def fsI (k : Nat) : Nat := ([0, 1, 0, 3, 0, 0] : List Nat).getD k 0
def laI (k : Nat) : Nat := ([0, 9, 13, 9, 8, 4] : List Nat).getD k 0
def rkI (kind it : Nat) : Int32 := if kind = 2 then Int32.ofNat it else -1
def suI (kind it : Nat) : Int32 := if kind = 5 then Int32.ofNat it else if kind = 4 then Int32.ofNat (it / 2) else -1
def szI (kind it : Nat) : Int32 := if kind = 4 then Int32.ofNat (4 + it % 2) else if kind = 2 then 2 else if kind = 5 then -1 else Int32.ofNat it
def crI (pl : Nat) : Int32 := if pl = 1 then 1 else if pl = 0 then 0 else -1
def stI (kind it : Nat) : Int32 := if kind = 1 then 2 else if kind = 2 then 2 else if kind = 3 then Int32.ofNat it else if kind = 4 then Int32.ofNat (4 + it % 2) else 1
/-- what an item counts by the first n clauses -/
def cIt (I : Nat → CI) (n : Nat) (deal mood : Int32) (kind pl it : Nat) : Int32 := cOf I n deal mood kind (rkI kind it) (suI kind it) (szI kind it) (crI pl) (stI kind it)
def WTab (M : Mem) (w : Nat) (I : Nat → CI) (n : Nat) (deal mood : Int32) : Prop := (∀ c, c < 52 → mI M (w + 4) c = vOf I n deal mood c) ∧ Bs (mJ M w 3) (bOf I n deal mood) ∧ ∀ kind, 1 ≤ kind → kind ≤ 5 → ∀ pl, pl < 3 → ∀ it, fsI kind ≤ it → it < laI kind → mI M (w + 6 + kind) (13 * pl + it) = cIt I n deal mood kind pl it
def WW (M : Mem) (w : Nat) (deal mood : Int32) : Prop := mI M (w + 2) 0 = deal ∧ mI M (w + 2) 5 = mood ∧ ∀ k, 6 ≤ k → k < 19 → mI M (w + 2) k = 0
theorem tell7 {t k : Nat} {v : Int32} {M : Mem} (hk : k < 19) : FX7_tell t (Int32.ofNat k) v M = some (sI M (t + 1) k v) := by
  apply So.eq
  unfold FX7_tell
  refine So_jn1 ?_
  rw [if_neg (show ¬ Int32.ofNat k < 0 by rw [Int32.lt_iff_toInt_lt, nn_int (by omega), show (0 : Int32).toInt = 0 from rfl]; omega), if_neg (show ¬ (19 : Int32) ≤ Int32.ofNat k from nle (n := 19) hk (by decide)), nn_ix (by omega)]
  exact So_gd (inb_nn hk (by decide)) (So_nm (So.ok rfl))
theorem tl_wE {W : Nat → Int32} {deal rank suit size crib mood : Int32} (h : ∀ k, k < 19 → W k = wA deal rank suit size crib mood k) : tlD W = wE deal rank suit size crib mood := by
  funext w
  unfold wE tlD
  by_cases c : 0 ≤ w.toInt ∧ w.toInt < 19
  · rw [if_pos c, if_pos c, h _ (by rw [ix_def]; omega)]
  · rw [if_neg c, if_neg c]
theorem tel_no {I : Nat → CI} {kind k : Nat} {tl : Int32 → Int32} {wo : Int64} (h : (I k).1 ≠ kind) : tel I kind tl wo (k + 1) = tel I kind tl wo k := by
  conv => lhs; unfold tel
  rw [if_neg h]
theorem tel_yes {I : Nat → CI} {kind k : Nat} {tl : Int32 → Int32} {wo v : Int64} (h : (I k).1 = kind) (h2 : hI (I k) tl = some v) : tel I kind tl wo (k + 1) = if kind = 6 then 1 else v := by
  conv => lhs; unfold tel
  rw [if_pos h, h2]
theorem tel_none {I : Nat → CI} {kind k : Nat} {tl : Int32 → Int32} {wo : Int64} (h2 : hI (I k) tl = none) : tel I kind tl wo (k + 1) = tel I kind tl wo k := by
  conv => lhs; unfold tel
  by_cases h : (I k).1 = kind
  · rw [if_pos h, h2]
  · rw [if_neg h]
/-- a sum is an int -/
theorem hI_rg {M : Mem} {c n len i : Nat} {I : Nat → CI} {tl : Int32 → Int32} {v : Int64} (h : TXT M c n len I) (hi : i < n) (hv : hI (I i) tl = some v) : -2147483648 ≤ v.toInt ∧ v.toInt < 2147483648 := by
  obtain ⟨a1, a2, a3, a4, _, _, _, _, _, _, _, g1, _⟩ := h.2.2.2.2.2.2.1 i hi
  unfold hI at hv
  split at hv
  · cases hd : dV (I i).2.2.1 tl with
    | none => rw [hd] at hv; cases hv
    | some x =>
      rw [hd] at hv
      have hx : x = v := by
        cases h2 : dV (I i).2.2.2.1 tl with
        | none => rw [h2] at hv; cases hv
        | some y => rw [h2] at hv; exact Option.some.inj hv
      subst hx
      rcases g1 with ⟨e, _⟩ | ⟨g, X, e, _, _, dd⟩
      · rw [e] at hd
        have : (0 : Int64) = x := Option.some.inj hd
        rw [← this]; decide
      · rw [e] at hd
        exact dd.1 tl x hd
  · cases hv
def FtE (w : Nat) (M N : Mem) : Prop := Eo (fun q => w ≤ q ∧ q < w + 12) M N
theorem SmE.ft {w : Nat} {M N : Mem} (h : SmE (w + 1) M N) : FtE w M N := h.1.up (fun a ha => by omega)
theorem askOfCards_c {w c i n len : Nat} {I : Nat → CI} {M : Mem} {deal mood : Int32} (ha : c + 3 ≤ w ∨ w + 12 ≤ c) (h : TXT M c n len I) (hi : i < n) (hk : (I i).1 = 0 ∨ (I i).1 = 6) (hW : WW M w deal mood) (hT : WTab M w I i deal mood) : So (FX10_askOfCards w c (Int32.ofNat i) (Int32.ofNat (I i).1) M) (fun N => FtE w M N ∧ WW N w deal mood ∧ WTab N w I (i + 1) deal mood ∧ (∀ k, k ≠ 3 → mI N w k = mI M w k) ∧ mR N w = mR M w) := by
  unfold FX10_askOfCards
  refine So.bindE (tell7 (t := w + 1) (k := 3) (by decide)) (So.bindE (tell7 (t := w + 1) (k := 4) (by decide)) ?_)
  generalize hM4 : sI (sI M (w + 1 + 1) 3 (-1)) (w + 1 + 1) 4 (-1) = M4
  have E4 : Eo (fun q => q = w + 2) M M4 := by rw [← hM4]; exact Eo.tr (Eo_sI (P := fun q => q = w + 2) rfl) (Eo_sI rfl)
  have w4 : ∀ k, mI M4 (w + 2) k = if k = 4 then -1 else if k = 3 then -1 else mI M (w + 2) k := fun k => by
    rw [← hM4, mI_sI, mI_sI]
    by_cases z : k = 4
    · rw [if_pos ⟨rfl, z⟩, if_pos z]
    rw [if_neg (fun y => z y.2), if_neg z]
    by_cases z3 : k = 3
    · rw [if_pos ⟨rfl, z3⟩, if_pos z3]
    rw [if_neg (fun y => z3 y.2), if_neg z3]
  refine loop_for 52 (by decide) (fun j N => FtE w M N ∧ (∀ k, k ≠ 1 → k ≠ 2 → mI N (w + 2) k = mI M4 (w + 2) k) ∧ (∀ k, k ≠ 3 → mI N w k = mI M w k) ∧ mR N w = mR M w ∧ (∀ d, d < 52 → mI N (w + 4) d = vOf I (if d < j then i + 1 else i) deal mood d) ∧ Bs (mJ N w 3) (fun d => bOf I (if d < j then i + 1 else i) deal mood d) ∧ ∀ q, 6 ≤ q → q < 12 → mI N (w + q) = mI M (w + q)) M4 ⟨E4.up (fun a ha => by omega), fun k _ _ => rfl, fun k _ => by rw [(E4 w (by omega)).1], (E4 w (by omega)).2.2.1, fun d hd => by rw [(E4 (w + 4) (by omega)).1, if_neg (by omega)]; exact hT.1 d hd, by rw [(E4 w (by omega)).2.1]; exact hT.2.1.congr (fun d hd => by rw [if_neg (by omega)]), fun q h1 h2 => (E4 (w + q) (by omega)).1⟩ (fun N rec hI' => ?_) (fun j N rec hj hI' hr => ?_)
  · obtain ⟨e1, e2, e3, e4, e5, e6, e7⟩ := hI'
    refine So.ite (fun _ => So.ok ⟨e1, ⟨?_, ?_, fun k k1 k2 => ?_⟩, ⟨fun d hd => ?_, ?_, fun kind k1 k2 pl hp it i1 i2 => ?_⟩, e3, e4⟩) (fun hc => absurd hc (ge_self 52))
    · rw [e2 0 (by decide) (by decide), w4, if_neg (by decide), if_neg (by decide)]; exact hW.1
    · rw [e2 5 (by decide) (by decide), w4, if_neg (by decide), if_neg (by decide)]; exact hW.2.1
    · rw [e2 k (by omega) (by omega), w4, if_neg (by omega), if_neg (by omega)]; exact hW.2.2 k k1 k2
    · rw [e5 d hd, if_pos hd]
    · exact e6.congr (fun d hd => by rw [if_pos hd])
    · have := e7 (6 + kind) (by omega) (by omega)
      rw [show w + 6 + kind = w + (6 + kind) by omega, this, show w + (6 + kind) = w + 6 + kind by omega, hT.2.2 kind k1 k2 pl hp it i1 i2]
      unfold cIt cOf
      rw [tel_no (by omega)]
  · obtain ⟨e1, e2, e3, e4, e5, e6, e7⟩ := hI'
    refine So.ite (fun hc => absurd hc (nle hj (by decide))) (fun _ => ?_)
    have d4 : Int32.ofNat j / 4 = Int32.ofNat (j / 4) := nn_div (b := 4) (by omega) (by decide)
    have m4 : irm (Int32.ofNat j) 4 = Int32.ofNat (j % 4) := nn_rem (b := 4) (by omega) (by decide)
    rw [d4, m4]
    refine So.bindE (tell7 (t := w + 1) (k := 1) (by decide)) (So.bindE (tell7 (t := w + 1) (k := 2) (by decide)) ?_)
    generalize hM12 : sI (sI N (w + 1 + 1) 1 (Int32.ofNat (j / 4))) (w + 1 + 1) 2 (Int32.ofNat (j % 4)) = M12
    have E12 : Eo (fun q => q = w + 2) N M12 := by rw [← hM12]; exact Eo.tr (Eo_sI (P := fun q => q = w + 2) rfl) (Eo_sI rfl)
    have w12 : ∀ k, mI M12 (w + 2) k = if k = 2 then Int32.ofNat (j % 4) else if k = 1 then Int32.ofNat (j / 4) else mI N (w + 2) k := fun k => by
      rw [← hM12, mI_sI, mI_sI]
      by_cases z : k = 2
      · rw [if_pos ⟨rfl, z⟩, if_pos z]
      rw [if_neg (fun y => z y.2), if_neg z]
      by_cases z3 : k = 1
      · rw [if_pos ⟨rfl, z3⟩, if_pos z3]
      rw [if_neg (fun y => z3 y.2), if_neg z3]
    have F12 : FtE w M M12 := e1.tr (E12.up (fun a ha => by omega))
    have tx12 : TXT M12 c n len I := h.keep (F12 _ (by omega)) (F12 _ (by omega))
    have htl : tlD (mI M12 (w + 2)) = wE deal (Int32.ofNat (j / 4)) (Int32.ofNat (j % 4)) (-1) (-1) mood := by
      refine tl_wE (fun k hk => ?_)
      rw [w12]
      unfold wA
      obtain rfl | rfl | rfl | rfl | rfl | rfl | hk6 : k = 0 ∨ k = 1 ∨ k = 2 ∨ k = 3 ∨ k = 4 ∨ k = 5 ∨ 6 ≤ k := by omega
      · rw [if_neg (by decide), if_neg (by decide), e2 0 (by decide) (by decide), w4, if_neg (by decide), if_neg (by decide), if_pos rfl]; exact hW.1
      · rfl
      · rfl
      · rw [if_neg (by decide), if_neg (by decide), e2 3 (by decide) (by decide), w4]; rfl
      · rw [if_neg (by decide), if_neg (by decide), e2 4 (by decide) (by decide), w4]; rfl
      · rw [if_neg (by decide), if_neg (by decide), e2 5 (by decide) (by decide), w4, if_neg (by decide), if_neg (by decide)]; exact hW.2.1
      · rw [if_neg (by omega), if_neg (by omega), e2 k (by omega) (by omega), w4, if_neg (by omega), if_neg (by omega), if_neg (by omega), if_neg (by omega), if_neg (by omega), if_neg (by omega), if_neg (by omega), if_neg (by omega)]; exact hW.2.2 k hk6 hk
    refine So_bdM (holds_c (w := w) ⟨by omega, by omega⟩ ⟨by omega, by omega⟩ tx12 hi) (fun r M13 h13 => ?_)
    rw [htl] at h13
    obtain ⟨s13, h13⟩ := h13
    have s13 : SmE (w + 1) M12 M13 := s13
    have F13 : FtE w M M13 := F12.tr s13.ft
    have x4 : mI M13 (w + 4) = mI N (w + 4) := (s13.1 (w + 4) (by omega)).1.trans (E12 (w + 4) (by omega)).1
    have xw : ∀ k, mI M13 w k = mI N w k := fun k => by rw [(s13.1 w (by omega)).1, (E12 w (by omega)).1]
    have xj : mJ M13 w = mJ N w := (s13.1 w (by omega)).2.1.trans (E12 w (by omega)).2.1
    have xr : mR M13 w = mR N w := (s13.1 w (by omega)).2.2.1.trans (E12 w (by omega)).2.2.1
    have x2 : ∀ k, k ≠ 1 → k ≠ 2 → mI M13 (w + 2) k = mI M4 (w + 2) k := fun k h1 h2 => by rw [(s13.1 (w + 2) (by omega)).1, w12, if_neg h2, if_neg h1]; exact e2 k h1 h2
    have xq : ∀ q, 6 ≤ q → q < 12 → mI M13 (w + q) = mI M (w + q) := fun q h1 h2 => by rw [(s13.1 (w + q) (by omega)).1, (E12 (w + q) (by omega)).1]; exact e7 q h1 h2
    have nx : ∀ K, FtE w M K → (∀ k, k ≠ 1 → k ≠ 2 → mI K (w + 2) k = mI M4 (w + 2) k) → (∀ k, k ≠ 3 → mI K w k = mI M w k) → mR K w = mR M w → (∀ d, d < 52 → mI K (w + 4) d = vOf I (if d < j + 1 then i + 1 else i) deal mood d) → Bs (mJ K w 3) (fun d => bOf I (if d < j + 1 then i + 1 else i) deal mood d) → (∀ q, 6 ≤ q → q < 12 → mI K (w + q) = mI M (w + q)) → So (rec (Int32.ofNat j + 1) K) _ := fun K a1 a2 a3 a4 a5 a6 a7 => hr K ⟨a1, a2, a3, a4, a5, a6, a7⟩
    -- what did not change
    have v0 : ∀ d, d < 52 → (d = j → vOf I (i + 1) deal mood d = vOf I i deal mood d) → mI M13 (w + 4) d = vOf I (if d < j + 1 then i + 1 else i) deal mood d := fun d hd he => by
      rw [x4, e5 d hd]
      by_cases z : d = j
      · rw [if_neg (by omega), if_pos (by omega), he z]
      · by_cases z2 : d < j
        · rw [if_pos z2, if_pos (by omega)]
        · rw [if_neg z2, if_neg (by omega)]
    have b0 : (bOf I (i + 1) deal mood j = bOf I i deal mood j) → Bs (mJ M13 w 3) (fun d => bOf I (if d < j + 1 then i + 1 else i) deal mood d) := fun he => by
      rw [xj]
      refine e6.congr (fun d hd => ?_)
      by_cases z : d = j
      · rw [if_neg (by omega), if_pos (by omega), z, he]
      · by_cases z2 : d < j
        · rw [if_pos z2, if_pos (by omega)]
        · rw [if_neg z2, if_neg (by omega)]
    refine So_jn1 ?_
    rcases h13 with ⟨v, q1, q2, q3⟩ | ⟨q1, q2⟩
    · have q2 : r = 1 := q2
      have q3 : mI M13 (w + 1) 2 = v.toInt32 := q3
      rw [q2, if_pos (by decide)]
      have e6' : (Int32.ofNat (I i).1 = 6) ↔ (I i).1 = 6 := nn_eq (b := 6) (by omega) (by omega)
      obtain ⟨g1, g2⟩ := hI_rg h hi q1
      rcases hk with k0 | k6
      · rw [if_pos (fun z => by have := e6'.mp z; omega), q3, within_eq g1 g2 (by decide)]
        refine So.bindE rfl (So_gd (inb_nn hj (by decide)) (So_nm (So_nm ?_)))
        rw [nn_ix (by omega)]
        refine nx _ (F13.tr (Eo_sI (by omega))) (fun k h1 h2 => by rw [mI_sI, if_neg (by omega)]; exact x2 k h1 h2) (fun k hk => by rw [mI_sI, if_neg (by omega), xw]; exact e3 k hk) (by show mR M13 w = _; rw [xr]; exact e4) (fun d hd => ?_) ?_ (fun q h1 h2 => by rw [(Ea_sI (by omega)).1]; exact xq q h1 h2)
        · by_cases z : d = j
          · subst z
            rw [mI_sI, if_pos ⟨rfl, rfl⟩, if_pos (by omega)]
            unfold vOf
            rw [tel_yes k0 q1, if_neg (by decide)]
          · rw [mI_sI, if_neg (fun y => z y.2)]
            exact v0 d hd (fun y => absurd y z)
        · refine b0 ?_
          unfold bOf; rw [tel_no (by omega)]
      · rw [if_neg (fun z => z (e6'.mpr k6)), bit_nn hj]
        refine So.bindE rfl (So_nm (So_nm ?_))
        refine nx _ (F13.tr (Eo_sJ (by omega))) (fun k h1 h2 => x2 k h1 h2) (fun k hk => by rw [mI_sJ, xw]; exact e3 k hk) (by show mR M13 w = _; rw [xr]; exact e4) (fun d hd => ?_) ?_ (fun q h1 h2 => xq q h1 h2)
        · rw [mI_sJ]
          refine v0 d hd (fun _ => ?_)
          unfold vOf; rw [tel_no (by omega)]
        · rw [mJ_sJ, if_pos ⟨rfl, rfl⟩, xj]
          refine (e6.or (Bs.one hj)).congr (fun d hd => ?_)
          by_cases z : d = j
          · subst z
            rw [if_neg (by omega), if_pos (by omega)]
            unfold bOf
            rw [tel_yes k6 q1, if_pos rfl]
            simp
          · have : decide (d = j) = false := by simp [z]
            rw [this, Bool.or_false]
            by_cases z2 : d < j
            · rw [if_pos z2, if_pos (by omega)]
            · rw [if_neg z2, if_neg (by omega)]
    · have q2 : r = 0 := q2
      rw [q2, if_neg (by decide)]
      refine So_nm (nx _ F13 x2 (fun k hk => by rw [xw]; exact e3 k hk) (by rw [xr]; exact e4) (fun d hd => v0 d hd (fun z => ?_)) (b0 ?_) xq)
      · subst z; unfold vOf; rw [tel_none q1]
      · unfold bOf; rw [tel_none q1]
