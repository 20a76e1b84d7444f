/-! ===== the tables are laid ===== -/
theorem bdd_in {n : Nat} {lo hi : Nat} (h1 : lo ≤ n) (h2 : n ≤ hi) (h3 : hi < 1000) : bdd (Int32.ofNat n).toInt64 (Int32.ofNat lo) (Int32.ofNat hi) = Int32.ofNat n := by
  unfold bdd
  rw [j_int, nn_int (by omega), nn_int (by omega), nn_int (by omega), if_pos (by omega), if_pos (by omega)]
  apply Int32.toInt_inj.mp
  rw [Int64.toInt_toInt32, j_int, nn_int (by omega), i_bm (by omega) (by omega)]
theorem std_ct : ∀ kind, kind ≤ 5 → 1 ≤ kind → ∀ it, it < 13 → bdd (stI kind it).toInt64 0 99 = stI kind it := by decide
theorem setStandard_c {w : Nat} {M : Mem} (I : Nat → CI) (deal mood : Int32) : So (FX10_setStandard w M) (fun N => FtE w M N ∧ WTab N w I 0 deal mood ∧ (∀ k, mI N w k = mI M w k) ∧ mR N w = mR M w ∧ mI N (w + 2) = mI M (w + 2)) := by
  unfold FX10_setStandard
  refine So_nm ?_
  have hv : ∀ c, c < 52 → Int32.ofNat (min 10 (c / 4 + 1)) = vOf I 0 deal mood c := fun c hc => by
    unfold vOf stdV
    show _ = bdd (Int32.ofNat (min 10 (c / 4 + 1))).toInt64 (Int32.ofNat 1) (Int32.ofNat 31)
    rw [bdd_in (by omega) (by omega) (by omega)]
  have hcI : ∀ kind, 1 ≤ kind → kind ≤ 5 → ∀ pl it, it < 13 → cIt I 0 deal mood kind pl it = stI kind it := fun kind k1 k2 pl it hi => by
    unfold cIt cOf
    exact std_ct kind k2 k1 it hi
  refine loop_for 52 (by decide) (fun i N => FtE w M N ∧ (∀ c, c < i → mI N (w + 4) c = Int32.ofNat (min 10 (c / 4 + 1))) ∧ mJ N w 3 = 0 ∧ (∀ k, mI N w k = mI M w k) ∧ mR N w = mR M w ∧ mI N (w + 2) = mI M (w + 2)) _ ⟨Eo_sJ (by omega), fun c hc => absurd hc (by omega), by rw [mJ_sJ, if_pos ⟨rfl, rfl⟩], fun _ => rfl, rfl, rfl⟩ (fun N rec hI' => ?_) (fun i N rec hi hI' hr => ?_)
  · obtain ⟨e1, e2, e3, e4, e5, e6⟩ := hI'
    refine So.ite (fun _ => ?_) (fun hc => absurd hc (ge_self 52))
    refine loop_for 3 (by decide) (fun pl K => FtE w M K ∧ mI K (w + 4) = mI N (w + 4) ∧ mJ K w = mJ N w ∧ (∀ k, mI K w k = mI M w k) ∧ mR K w = mR M w ∧ mI K (w + 2) = mI M (w + 2) ∧ ∀ kind, 1 ≤ kind → kind ≤ 5 → ∀ q, q < pl → ∀ it, it < 13 → mI K (w + 6 + kind) (13 * q + it) = stI kind it) N ⟨e1, rfl, rfl, e4, e5, e6, fun _ _ _ q hq => absurd hq (by omega)⟩ (fun K rec2 hK => ?_) (fun pl K rec2 hpl hK hr2 => ?_)
    · obtain ⟨g1, g2, g3, g4, g5, g6, g7⟩ := hK
      refine So.ite (fun _ => So.ok ⟨g1, ⟨fun c hc => ?_, ?_, fun kind k1 k2 pl hp it i1 i2 => ?_⟩, g4, g5, g6⟩) (fun hc => absurd hc (ge_self 3))
      · rw [g2, e2 c hc, hv c hc]
      · rw [g3, e3]
        exact Bs.zero.congr (fun c hc => by unfold bOf; rfl)
      · have := (fs_la kind (by omega)).2.2.2
        rw [g7 kind k1 k2 pl hp it (by omega), hcI kind k1 k2 pl it (by omega)]
    · obtain ⟨g1, g2, g3, g4, g5, g6, g7⟩ := hK
      refine So.ite (fun hc => absurd hc (nle hpl (by decide))) (fun _ => ?_)
      refine loop_for 13 (by decide) (fun it J => FtE w M J ∧ mI J (w + 4) = mI N (w + 4) ∧ mJ J w = mJ N w ∧ (∀ k, mI J w k = mI M w k) ∧ mR J w = mR M w ∧ mI J (w + 2) = mI M (w + 2) ∧ ∀ kind, 1 ≤ kind → kind ≤ 5 → ∀ q, ∀ t', t' < 13 → (q < pl ∨ (q = pl ∧ t' < it)) → mI J (w + 6 + kind) (13 * q + t') = stI kind t') K ⟨g1, g2, g3, g4, g5, g6, fun kind k1 k2 q t' ht hq => g7 kind k1 k2 q (by omega) t' ht⟩ (fun J rec3 hJ => ?_) (fun it J rec3 hit hJ hr3 => ?_)
      · obtain ⟨m1, m2, m3, m4, m5, m6, m7⟩ := hJ
        refine So.ite (fun _ => So_nm (hr2 J ⟨m1, m2, m3, m4, m5, m6, fun kind k1 k2 q hq t' ht => m7 kind k1 k2 q t' ht (by omega)⟩)) (fun hc => absurd hc (ge_self 13))
      · obtain ⟨m1, m2, m3, m4, m5, m6, m7⟩ := hJ
        refine So.ite (fun hc => absurd hc (nle hit (by decide))) (fun _ => So_nm ?_)
        have ei : Int32.ofNat pl * 13 + Int32.ofNat it = Int32.ofNat (13 * pl + it) := by
          rw [show (13 : Int32) = Int32.ofNat 13 from rfl, nn_mul, nn_add, Nat.mul_comm]
        have i39 : inb (Int32.ofNat (13 * pl + it)) 39 = true := inb_nn (by omega) (by decide)
        rw [ei, nn_ix (by omega), show irm (Int32.ofNat it) 2 = Int32.ofNat (it % 2) from nn_rem (b := 2) (by omega) (by decide), show (4 : Int32) + Int32.ofNat (it % 2) = Int32.ofNat (4 + it % 2) from nn_add 4 _]
        refine So_gd i39 (So_nm (So_gd i39 (So_nm (So_gd i39 (So_nm (So_gd i39 (So_nm (So_gd i39 (So_nm (So_nm (hr3 _ ⟨?_, ?_, ?_, ?_, ?_, ?_, ?_⟩)))))))))))
        · exact ((((m1.tr (Eo_sI (by omega))).tr (Eo_sI (by omega))).tr (Eo_sI (by omega))).tr (Eo_sI (by omega))).tr (Eo_sI (by omega))
        · funext k
          rw [mI_sI, if_neg (by omega), mI_sI, if_neg (by omega), mI_sI, if_neg (by omega), mI_sI, if_neg (by omega), mI_sI, if_neg (by omega), m2]
        · exact m3
        · intro k
          rw [mI_sI, if_neg (by omega), mI_sI, if_neg (by omega), mI_sI, if_neg (by omega), mI_sI, if_neg (by omega), mI_sI, if_neg (by omega)]; exact m4 k
        · exact m5
        · funext k
          rw [mI_sI, if_neg (by omega), mI_sI, if_neg (by omega), mI_sI, if_neg (by omega), mI_sI, if_neg (by omega), mI_sI, if_neg (by omega), m6]
        · intro kind k1 k2 q t' ht hq
          by_cases z : q = pl ∧ t' = it
          · obtain ⟨rfl, rfl⟩ := z
            obtain rfl | rfl | rfl | rfl | rfl : kind = 1 ∨ kind = 2 ∨ kind = 3 ∨ kind = 4 ∨ kind = 5 := by omega
            · rw [mI_sI, if_neg (by omega), mI_sI, if_neg (by omega), mI_sI, if_neg (by omega), mI_sI, if_neg (by omega), mI_sI, if_pos ⟨by omega, rfl⟩]; rfl
            · rw [mI_sI, if_neg (by omega), mI_sI, if_neg (by omega), mI_sI, if_neg (by omega), mI_sI, if_pos ⟨by omega, rfl⟩]; rfl
            · rw [mI_sI, if_neg (by omega), mI_sI, if_neg (by omega), mI_sI, if_pos ⟨by omega, rfl⟩]; rfl
            · rw [mI_sI, if_neg (by omega), mI_sI, if_pos ⟨by omega, rfl⟩]; rfl
            · rw [mI_sI, if_pos ⟨by omega, rfl⟩]; rfl
          · have n1 : ¬ (13 * q + t' = 13 * pl + it) := by omega
            rw [mI_sI, if_neg (fun y => n1 y.2), mI_sI, if_neg (fun y => n1 y.2), mI_sI, if_neg (fun y => n1 y.2), mI_sI, if_neg (fun y => n1 y.2), mI_sI, if_neg (fun y => n1 y.2)]
            exact m7 kind k1 k2 q t' ht (by omega)
  · obtain ⟨e1, e2, e3, e4, e5, e6⟩ := hI'
    refine So.ite (fun hc => absurd hc (nle hi (by decide))) (fun _ => So_gd (inb_nn hi (by decide)) (So_nm (So_nm (hr _ ⟨e1.tr (Eo_sI (by omega)), fun c hc => ?_, e3, fun k => by rw [mI_sI, if_neg (by omega)]; exact e4 k, e5, by rw [(Ea_sI (by omega)).1]; exact e6⟩))))
    rw [nn_ix (by omega), mI_sI, show Int32.ofNat i / 4 = Int32.ofNat (i / 4) from nn_div (b := 4) (by omega) (by decide), s1]
    by_cases z : c = i
    · subst z
      rw [if_pos ⟨rfl, rfl⟩]
      unfold imn
      have e10 : (Int32.ofNat (c / 4 + 1) < 10) ↔ c / 4 + 1 < 10 := nn_lt (b := 10) (by omega) (by omega)
      by_cases z2 : c / 4 + 1 < 10
      · rw [if_pos (e10.mpr z2), show min 10 (c / 4 + 1) = c / 4 + 1 by omega]
      · rw [if_neg (fun y => z2 (e10.mp y)), show min 10 (c / 4 + 1) = 10 by omega]; rfl
    · rw [if_neg (fun y => z y.2)]
      exact e2 c (by omega)
/-- what is known of the texts of laws: by their places -/
abbrev Lam : Type := Nat → Nat × (Nat → CI)
/-- a law's text -/
def TxV (Λ : Lam) (M : Mem) (a : Nat) : Prop := ∃ len, mI M a 3 = Int32.ofNat (Λ a).1 ∧ TXT M a (Λ a).1 len (Λ a).2 ∧ (mI M a 4 = 0 ∨ mI M a 4 = 1) ∧ (mI M a 4 = 0 → ∀ i, i < (Λ a).1 → IndO ((Λ a).2 i).2.2.1 ∧ IndO ((Λ a).2 i).2.2.2.2) ∧ ∀ i, i < (Λ a).1 → ((Λ a).2 i).1 ≤ 6 ∧ ((Λ a).2 i).2.2.2.1 = none
theorem TxV.keep {Λ : Lam} {M N : Mem} {a : Nat} (h : TxV Λ M a) (e0 : Ea M N a) (e1 : Ea M N (a + 1)) (e2 : Ea M N (a + 2)) : TxV Λ N a := by
  obtain ⟨len, h1, h2, h3, h4, h5⟩ := h
  refine ⟨len, by rw [e0.1]; exact h1, h2.keep e1 e2, by rw [e0.1]; exact h3, by rw [e0.1]; exact h4, h5⟩
/-- the law at a place, or none -/
def LOf (Λ : Lam) (x : Option Nat) : Nat × (Nat → CI) := match x with
  | none => (0, fun _ => (0, 0, none, none, none))
  | some a => Λ a
def LV (Λ : Lam) (M : Mem) (lo T : Nat) (x : Option Nat) : Prop := ∀ a, x = some a → lo ≤ a ∧ a + 3 ≤ T ∧ TxV Λ M a
/-- what a Worth holds -/
def WR (Λ : Lam) (M : Mem) (lo T w : Nat) : Prop := (∀ k, 6 ≤ k → k < 19 → mI M (w + 2) k = 0) ∧ (mI M w 5 = 0 ∨ mI M w 5 = 1) ∧ (mI M w 5 = 1 → LV Λ M lo T (mR M w 6) ∧ WTab M w (LOf Λ (mR M w 6)).2 (LOf Λ (mR M w 6)).1 (mI M w 7) (mI M w 8))
theorem hI_ind {ci : CI} (h1 : IndO ci.2.2.1) (h2 : ci.2.2.2.1 = none) (h3 : IndO ci.2.2.2.2) {tl tl' : Int32 → Int32} (h : ∀ w : Int32, w ≠ 0 → w ≠ 5 → tl w = tl' w) : hI ci tl = hI ci tl' := by
  have e1 : dT ci.2.2.2.2 tl = dT ci.2.2.2.2 tl' := by
    unfold dT
    cases hc : ci.2.2.2.2 with
    | none => rfl
    | some g => simp only []; rw [h3 g hc tl tl' h]
  have e2 : dV ci.2.2.1 tl = dV ci.2.2.1 tl' := by
    unfold dV
    cases hc : ci.2.2.1 with
    | none => rfl
    | some g => simp only []; rw [h1 g hc tl tl' h]
  unfold hI
  rw [e1, e2, h2]; rfl
theorem tel_ind {I : Nat → CI} {n kind : Nat} {wo : Int64} (h : ∀ i, i < n → IndO (I i).2.2.1 ∧ (I i).2.2.2.1 = none ∧ IndO (I i).2.2.2.2) {tl tl' : Int32 → Int32} (ht : ∀ w : Int32, w ≠ 0 → w ≠ 5 → tl w = tl' w) : tel I kind tl wo n = tel I kind tl' wo n := by
  induction n with
  | zero => rfl
  | succ n ih =>
    have hn := h n (by omega)
    unfold tel
    rw [hI_ind hn.1 hn.2.1 hn.2.2 ht, ih (fun i hi => h i (by omega))]
theorem wE_ind {deal deal' rank suit size crib mood mood' : Int32} (w : Int32) (h0 : w ≠ 0) (h5 : w ≠ 5) : wE deal rank suit size crib mood w = wE deal' rank suit size crib mood' w := by
  unfold wE tlD
  by_cases c : 0 ≤ w.toInt ∧ w.toInt < 19
  · rw [if_pos c, if_pos c]
    have n0 : ix w ≠ 0 := fun z => h0 (by
      apply Int32.toInt_inj.mp
      rw [ix_def] at z
      show w.toInt = 0; omega)
    have n5 : ix w ≠ 5 := fun z => h5 (by
      apply Int32.toInt_inj.mp
      rw [ix_def] at z
      show w.toInt = 5; omega)
    unfold wA
    rw [if_neg n0, if_neg n0]
    (repeat' split) <;> first | rfl | (exact absurd (by assumption) n5)
  · rw [if_neg c, if_neg c]
theorem WTab.ind {M : Mem} {w n : Nat} {I : Nat → CI} {deal mood deal' mood' : Int32} (h : WTab M w I n deal mood) (hi : ∀ i, i < n → IndO (I i).2.2.1 ∧ (I i).2.2.2.1 = none ∧ IndO (I i).2.2.2.2) : WTab M w I n deal' mood' := by
  refine ⟨fun c hc => ?_, h.2.1.congr (fun c hc => ?_), fun kind k1 k2 pl hp it i1 i2 => ?_⟩
  · rw [h.1 c hc]; unfold vOf; rw [tel_ind hi (fun w a b => wE_ind w a b)]
  · unfold bOf; rw [tel_ind hi (fun w a b => wE_ind w a b)]
  · rw [h.2.2 kind k1 k2 pl hp it i1 i2]; unfold cIt cOf; rw [tel_ind hi (fun w a b => wE_ind w a b)]
