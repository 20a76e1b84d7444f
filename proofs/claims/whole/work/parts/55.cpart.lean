/-! ===== the class reads a part ===== -/
/-- it asks for neither the deal nor the mood -/
def Ind (f : Den) : Prop := ∀ tl tl' : Int32 → Int32, (∀ w : Int32, w ≠ 0 → w ≠ 5 → tl w = tl' w) → f tl = f tl'
def Chg (h o : Nat) (M N : Mem) (f : Den) : Prop := (mI M (h + 2) 4 = 1 → mI N (h + 2) 4 = 1) ∧ (o = 0 → mI N (h + 2) 4 = 0 → Ind f)
def Gp (B : Nat → Nat) (L h o : Nat) (M : Mem) (K : List (Nat × Nat)) (c d : Nat) (S : Nat → Nat → Den → Prop) (F : Nat → Prop) (r : Int32 × Mem) : Prop := CE h M r.2 ∧ ((r.1 = 1 ∧ ∃ p' lv' X f, CS B L h o r.2 p' lv' (K ++ X) c ∧ DC X K.length d f ∧ Chg h o M r.2 f ∧ S p' lv' f) ∨ (r.1 = 0 ∧ ∃ pf, CF B L h r.2 pf ∧ F pf))
theorem Ind_bin {k : Nat} {f g : Den} (hf : Ind f) (hg : Ind g) : Ind (dBin k f g) := fun tl tl' h => by unfold dBin; rw [hf tl tl' h, hg tl tl' h]
theorem Ind_not {f : Den} (hf : Ind f) : Ind (dNot f) := fun tl tl' h => by unfold dNot; rw [hf tl tl' h]
theorem Ind_J {k : Nat} {f g : Den} (hf : Ind f) (hg : Ind g) : Ind (dJ k f g) := fun tl tl' h => by
  unfold dJ dAnd dOr
  split
  · show (f tl).bind _ = (f tl').bind _; rw [hf tl tl' h, hg tl tl' h]
  · show (f tl).bind _ = (f tl').bind _; rw [hf tl tl' h, hg tl tl' h]
theorem wv_cases {B : Nat → Nat} {L p : Nat} (hk : tkK B L p = 1) : (∃ j, j < 29 ∧ isW B L p j ∧ tkV B L p = Int32.ofNat j) ∨ (tkV B L p = -1 ∧ ∀ j, j < 29 → ¬ isW B L p j) := by
  by_cases c : ∃ j, j < 29 ∧ isW B L p j
  · obtain ⟨j, h1, h2⟩ := c
    exact Or.inl ⟨j, h1, h2, (tkV_w h1 hk).mpr h2⟩
  · refine Or.inr ⟨?_, fun j h1 h2 => c ⟨j, h1, h2⟩⟩
    unfold tkV wIx
    rw [if_pos hk]
    cases h : wdI (tkW B L p) WL 0 with
    | none => rfl
    | some i =>
      exfalso
      have hl : ∀ (ys : List (List Nat)) (k m : Nat), wdI (tkW B L p) ys k = some m → m < k + ys.length := by
        intro ys
        induction ys with
        | nil => intro k m z; simp [wdI] at z
        | cons y ys ih =>
          intro k m z
          unfold wdI at z
          split at z
          · simp at z; simp; omega
          · have := ih (k + 1) m z; simp; omega
      have h29 := hl WL 0 i h
      have e : WL.length = 29 := rfl
      refine c ⟨i, by omega, hk, ?_⟩
      exact (wdI_iff (tkW B L p) WL 0 i (by decide +kernel)).mp (by rw [h, Nat.zero_add])
theorem CS.h5 {B : Nat → Nat} {L h o p lv c : Nat} {M : Mem} {K : List (Nat × Nat)} (s : CS B L h o M p lv K c) (hlv : lv < 50) : CS B L h o (sI M h 5 (Int32.ofNat (lv + 1))) p (lv + 1) K c := by
  obtain ⟨s1', s2, s3, s4, s5, s6, s7, s8⟩ := s
  have f : ∀ k, k ≠ 5 → mI (sI M h 5 (Int32.ofNat (lv + 1))) h k = mI M h k := fun k hk => by rw [mI_sI, if_neg (fun z => hk z.2)]
  have g : ∀ k, mI (sI M h 5 (Int32.ofNat (lv + 1))) (h + 2) k = mI M (h + 2) k := fun k => by rw [mI_sI, if_neg (by omega)]
  exact ⟨⟨s1'.1, by rw [f 2 (by decide)]; exact s1'.2.1, fun k hk => by rw [mI_sI, if_neg (by omega)]; exact s1'.2.2 k hk⟩, s2, ⟨by rw [f 6 (by decide)]; exact s3.1, by rw [f 7 (by decide)]; exact s3.2.1, by rw [f 8 (by decide)]; exact s3.2.2.1, fun z => by rw [f 9 (by decide)]; exact s3.2.2.2 z⟩, by rw [mI_sI, if_pos ⟨rfl, rfl⟩], by omega, s6.keep (funext g) (funext fun k => by rw [mI_sI, if_neg (by omega)]) rfl, s7, by rw [f 4 (by decide)]; exact s8⟩
/-- a code is put for the token, and on -/
theorem put_adv {B : Nat → Nat} {L h o p lv c st w : Nat} {M : Mem} {K : List (Nat × Nat)} (s : CS B L h o M p lv K c) (hk : tkK B L p ≠ 0) (hlt : K.length < 400) : So (FX9_put (h + 2) (Int32.ofNat st) (Int32.ofNat w) M) (fun r => CE h M r.2 ∧ mI r.2 (h + 2) 4 = mI M (h + 2) 4 ∧ So (FX5_advance h r.2) (fun q => q.1 = 1 ∧ CE h M q.2 ∧ mI q.2 (h + 2) 4 = mI M (h + 2) 4 ∧ CS B L h o q.2 (tkE B L p) lv (K ++ [(st, w)]) c)) := by
  obtain ⟨s1', s2, s3, s4, s5, ⟨k1, k2, k3, k4⟩, s7, s8⟩ := s
  have hL := s1'.1
  unfold FX9_put
  refine So_nm (So_jn1 ?_)
  rw [show h + 2 + 1 = h + 3 by omega, k1, k2, s1]
  rw [if_neg (nle (show 2 * K.length + 1 < 800 by omega) (by decide)), nn_ix (by omega)]
  refine So_gd (inb_nn (by omega) (by decide)) (So_nm ?_)
  have e1 : mI (sI M (h + 3) (2 * K.length) (Int32.ofNat st)) (h + 2) 2 = Int32.ofNat (2 * K.length) := by rw [mI_sI, if_neg (by omega)]; exact k2
  have n1 : mN (sI M (h + 3) (2 * K.length) (Int32.ofNat st)) (h + 3) = 800 := k1
  rw [e1, n1, s1, nn_ix (by omega)]
  refine So_gd (inb_nn (by omega) (by decide)) (So_nm (So_nm (So.ok ?_)))
  have e2 : mI (sI (sI M (h + 3) (2 * K.length) (Int32.ofNat st)) (h + 3) (2 * K.length + 1) (Int32.ofNat w)) (h + 2) 2 = Int32.ofNat (2 * K.length) := by rw [mI_sI, if_neg (by omega)]; exact e1
  rw [e2, two_s]
  generalize hM' : sI (sI (sI M (h + 3) (2 * K.length) (Int32.ofNat st)) (h + 3) (2 * K.length + 1) (Int32.ofNat w)) (h + 2) 2 (Int32.ofNat (2 * (K.length + 1))) = M'
  have E : CE h M M' := by rw [← hM']; exact (CE_c.tr CE_c).tr (CE_d (Or.inl rfl))
  have f : ∀ k, mI M' h k = mI M h k := fun k => by rw [← hM', mI_sI, if_neg (by omega), mI_sI, if_neg (by omega), mI_sI, if_neg (by omega)]
  have g4 : mI M' (h + 2) 4 = mI M (h + 2) 4 := by rw [← hM', mI_sI, if_neg (by simp), mI_sI, if_neg (by omega), mI_sI, if_neg (by omega)]
  have T' : TpC B L h M' := ⟨s1'.1, by rw [f]; exact s1'.2.1, fun k hk => by rw [(E.1 (h + 1) (by omega) (by omega) (by omega)).1]; exact s1'.2.2 k hk⟩
  refine ⟨E, g4, (advance_so T' (by rw [f]; exact s3.2.1) (tkE_le B s2)).mono (fun q hq => ?_)⟩
  obtain ⟨q1, q2, q3⟩ := hq
  have e22 := (q2.1 (h + 2) (by omega)).1
  have e33 := (q2.1 (h + 3) (by omega)).1
  have hm := tkS_lt B hk
  refine ⟨q1, E.tr (CE_a q2), by rw [e22]; exact g4, T'.keep q2, tkE_le B s2, q3, by rw [q2.2.1 5 (by decide) (by decide) (by decide) (by decide), f]; exact s4, s5, ⟨by rw [(CE_a q2).2.2.2.1, E.2.2.2.1]; exact k1, ?_, ?_, by rw [e22, g4]; exact k4⟩, ?_, by rw [q2.2.1 4 (by decide) (by decide) (by decide) (by decide), f]; exact s8⟩
  · rw [e22, ← hM', mI_sI, if_pos ⟨rfl, rfl⟩]; simp
  · rw [e33]
    have c3 : ∀ k, mI M' (h + 3) k = if k = 2 * K.length + 1 then Int32.ofNat w else if k = 2 * K.length then Int32.ofNat st else mI M (h + 3) k := fun k => by
      rw [← hM', mI_sI, if_neg (by omega), mI_sI, mI_sI]
      by_cases z : k = 2 * K.length + 1
      · rw [if_pos ⟨rfl, z⟩, if_pos z]
      · rw [if_neg (fun y => z y.2), if_neg z]
        by_cases z2 : k = 2 * K.length
        · rw [if_pos ⟨rfl, z2⟩, if_pos z2]
        · rw [if_neg (fun y => z2 y.2), if_neg z2]
    refine cC_app (fun i hi => ?_) (fun i hi => ?_)
    · rw [c3, c3, if_neg (by omega), if_neg (by omega), if_neg (by omega), if_neg (by omega)]; exact k3 i hi
    · have : i = 0 := by simp at hi; omega
      subst this
      simp only [Nat.zero_add, Nat.add_zero]
      rw [c3, c3, if_neg (by omega), if_pos rfl, if_pos rfl]
      exact ⟨rfl, rfl⟩
  · rw [List.length_append]; simp only [List.length_cons, List.length_nil]; omega
theorem Ind_leaf {st w : Nat} (h : st = 0 ∨ (w ≠ 0 ∧ w ≠ 5 ∧ w < 1000)) : Ind (dLeaf st w) := fun tl tl' ht => by
  unfold dLeaf
  rcases h with rfl | ⟨h1, h2, h3⟩
  · rw [if_pos rfl, if_pos rfl]
  · rw [ht (Int32.ofNat w) (fun z => h1 ((nn_eq (b := 0) (by omega) (by omega)).mp z)) (fun z => h2 ((nn_eq (b := 5) (by omega) (by omega)).mp z))]
def PtS (B : Nat → Nat) (L o od p lv d : Nat) (p' lv' : Nat) (f : Den) : Prop := ∀ u tst, SPart B L u o tst p lv od p' lv' d f
def PtF (B : Nat → Nat) (L o od p lv : Nat) (pf : Nat) : Prop := ∀ u tst, FPart B L u o tst p lv od pf
theorem SPart.up {B : Nat → Nat} {L u o p lv od p' lv' d d' : Nat} {tst : Int32} {f : Den} (h : SPart B L u o tst p lv od p' lv' d f) (hd : d ≤ d') : SPart B L u o tst p lv od p' lv' d' f := fun N C P Q hc hk => h N C P Q hc (fun N' Y pf c hD => hk N' Y pf c (hD.up hd))
theorem lawWord_c {B : Nat → Nat} {L h o p lv c od d : Nat} {M : Mem} {K : List (Nat × Nat)} (s : CS B L h o M p (lv + 1) K c) (hlv : lv < 50) (ho : o = 0) (hk : tkK B L p = 1) (hd : 1 ≤ d) : So (FX5_readLawWord h M) (Gp B L h o M K c d (PtS B L o od p lv d) (PtF B L o od p lv)) := by
  have hL := s.1.1
  have hkl : K.length < 400 := by have := s.2.2.2.2.2.2.1; have := tk3_lt (B := B) (L := L) (p := p) (by omega); omega
  have hv9 : mI M h 9 = tkV B L p := s.2.2.1.2.2.2 (by omega)
  have ng : ¬ isG B L p 91 := fun z => by have := z.1; omega
  have lw : ∀ k, k < 6 → 10 ≤ ([11, 12, 13, 14, 10, 15] : List Nat).getD k 0 ∧ ([11, 12, 13, 14, 10, 15] : List Nat).getD k 0 ≤ 15 := by decide
  have bad : (∀ j, j < 29 → 10 ≤ j → j ≤ 15 → ¬ isW B L p j) → So (some ((0 : Int32), M)) (Gp B L h o M K c d (PtS B L o od p lv d) (PtF B L o od p lv)) := fun hn =>
    So.ok ⟨CE.rf, Or.inr ⟨rfl, tkS B L p, s.cf, fun u tst => part_leafB (Or.inl ⟨rfl, Or.inr ⟨fun z => by omega, fun _ k hk' z => by have := lw k hk'; exact hn _ (by omega) this.1 this.2 z, fun z => by omega⟩⟩) ng⟩⟩
  unfold FX5_readLawWord
  refine So_jn0 ?_
  rw [hv9]
  rcases wv_cases hk with ⟨j, hj, hw, hv⟩ | ⟨hv, hno⟩
  · rw [hv]
    have e1 : (Int32.ofNat j < 10) ↔ j < 10 := nn_lt (b := 10) (by omega) (by omega)
    have e2 : (Int32.ofNat j ≤ 15) ↔ j ≤ 15 := nn_le (b := 15) (by omega) (by omega)
    by_cases c1 : j < 10
    · rw [if_pos (e1.mpr c1)]
      exact bad (fun i hi h1 h2 z => by have := isW_inj hw z hj hi; omega)
    rw [if_neg (fun z => c1 (e1.mp z))]
    by_cases c2 : j ≤ 15
    · rw [if_pos (e2.mpr c2)]
      obtain ⟨k, hk6, hkj, hkw⟩ : ∃ k, k < 6 ∧ ([11, 12, 13, 14, 10, 15] : List Nat).getD k 0 = j ∧ ([1, 2, 3, 4, 0, 5] : List Nat).getD k 0 = j - 10 := by
        obtain rfl | rfl | rfl | rfl | rfl | rfl : j = 10 ∨ j = 11 ∨ j = 12 ∨ j = 13 ∨ j = 14 ∨ j = 15 := by omega
        · exact ⟨4, by decide, rfl, rfl⟩
        · exact ⟨0, by decide, rfl, rfl⟩
        · exact ⟨1, by decide, rfl, rfl⟩
        · exact ⟨2, by decide, rfl, rfl⟩
        · exact ⟨3, by decide, rfl, rfl⟩
        · exact ⟨5, by decide, rfl, rfl⟩
      have hleaf : Leaf B L o p (k + 1) 0 1 (j - 10) (tkE B L p) := Or.inr (Or.inl ⟨ho, k, hk6, by rw [hkj]; exact hw, rfl, rfl, rfl, hkw.symm, rfl⟩)
      refine So_jn1R (fun v => (v = 0 ∨ v = 1) ∧ (mI M (h + 2) 4 = 1 → v = 1) ∧ (v = 0 → j ≠ 10 ∧ j ≠ 15)) (fun v5 hv5 => ?_) (fun j6 hj6 => So_jn0 ?_)
      · obtain ⟨b1, b2, b3⟩ := hv5
        refine So_gd (by rcases b1 with rfl | rfl <;> rfl) (So_nm ?_)
        generalize hM8 : sI M (h + 2) 4 v5 = M8
        have E8 : CE h M M8 := by rw [← hM8]; exact CE_d (Or.inr rfl)
        have f8 : ∀ k, mI M8 h k = mI M h k := fun k => by rw [← hM8, mI_sI, if_neg (by omega)]
        have g8 : mI M8 (h + 2) 4 = v5 := by rw [← hM8, mI_sI, if_pos ⟨rfl, rfl⟩]
        have s8 : CS B L h o M8 p (lv + 1) K c := by
          obtain ⟨s1', s2, s3, s4, s5, ⟨k1, k2, k3, k4⟩, s7, s8⟩ := s
          exact ⟨⟨s1'.1, by rw [f8]; exact s1'.2.1, fun k hk => by rw [(E8.1 (h + 1) (by omega) (by omega) (by omega)).1]; exact s1'.2.2 k hk⟩, s2, ⟨by rw [f8]; exact s3.1, by rw [f8]; exact s3.2.1, by rw [f8]; exact s3.2.2.1, fun z => by rw [f8]; exact s3.2.2.2 z⟩, by rw [f8]; exact s4, s5, ⟨by rw [E8.2.2.2.1]; exact k1, by rw [← hM8, mI_sI, if_neg (by simp)]; exact k2, by rw [← hM8]; exact fun i hi => by rw [mI_sI, if_neg (by omega), mI_sI, if_neg (by omega)]; exact k3 i hi, by rw [g8]; exact b1⟩, s7, by rw [f8]; exact s8⟩
        rw [f8 9, hv9, hv, show Int32.ofNat j - 10 = Int32.ofNat (j - 10) from nn_sub (b := 10) (by omega) (by omega)]
        refine So_bdM (put_adv (st := 1) (w := j - 10) s8 (by omega) hkl) (fun r N hr => ?_)
        obtain ⟨q1, q2, q3⟩ := hr
        refine So_bdM q3 (fun r' N' hr' => ?_)
        obtain ⟨t1, t2, t3, t4⟩ := hr'
        have t1' : r' = 1 := t1
        rw [t1']
        refine So_gd rfl (So.ok ⟨E8.tr t2, Or.inl ⟨rfl, tkE B L p, lv + 1, [(1, j - 10)], dLeaf 1 (j - 10), t4, (DC_leaf (Or.inr rfl)).up hd, ⟨fun z => ?_, fun _ z => ?_⟩, fun u tst => (part_leaf hleaf hlv).up hd⟩⟩)
        · show mI N' (h + 2) 4 = 1
          rw [t3, g8]; exact b2 z
        · have z : mI N' (h + 2) 4 = 0 := z
          rw [t3, g8] at z
          have := b3 z
          exact Ind_leaf (Or.inr ⟨by omega, by omega, by omega⟩)
      · have k4 := s.2.2.2.2.2.1.2.2.2
        refine So.ite (fun z => hj6 _ ⟨Or.inr rfl, fun _ => rfl, fun z => absurd z (by decide)⟩) (fun z => ?_)
        refine So.ite (fun _ => hj6 _ ⟨Or.inr rfl, fun _ => rfl, fun z => absurd z (by decide)⟩) (fun z1 => ?_)
        refine So.ite (fun z2 => hj6 _ ⟨Or.inl rfl, fun y => absurd (Classical.not_not.mp z) (by rw [y]; decide), fun _ => ⟨fun y => z1 (by rw [y]; rfl), fun y => z2 (by rw [y]; rfl)⟩⟩) (fun _ => hj6 _ ⟨Or.inr rfl, fun _ => rfl, fun z => absurd z (by decide)⟩)
    · rw [if_neg (fun z => c2 (e2.mp z))]
      exact bad (fun i hi h1 h2 z => by have := isW_inj hw z hj hi; omega)
  · rw [hv, if_pos (by decide)]
    exact bad (fun i hi _ _ => hno i hi)
