/-! ===== the class's reader: what it holds ===== -/
/-- the draft's codes -/
def KC (h : Nat) (M : Mem) (K : List (Nat × Nat)) : Prop := mN M (h + 3) = 800 ∧ mI M (h + 2) 2 = Int32.ofNat (2 * K.length) ∧ cC (mI M (h + 3)) 0 K ∧ (mI M (h + 2) 4 = 0 ∨ mI M (h + 2) 4 = 1)
/-- what the class's reader may change -/
def CE (h : Nat) (M N : Mem) : Prop := (∀ a, a ≠ h → a ≠ h + 2 → a ≠ h + 3 → Ea M N a) ∧ (∀ k, k ∉ ([5, 6, 7, 8, 9] : List Nat) → mI N h k = mI M h k) ∧ (∀ k, k ≠ 2 → k ≠ 4 → mI N (h + 2) k = mI M (h + 2) k) ∧ mN N = mN M ∧ (∀ a, mJ N a = mJ M a) ∧ (∀ a, mR N a = mR M a)
theorem CE.rf {h : Nat} {M : Mem} : CE h M M := ⟨fun a _ _ _ => Ea.rf M a, fun _ _ => rfl, fun _ _ _ => rfl, rfl, fun _ => rfl, fun _ => rfl⟩
theorem CE.tr {h : Nat} {M N K : Mem} (a : CE h M N) (b : CE h N K) : CE h M K := ⟨fun q h1 h2 h3 => (a.1 q h1 h2 h3).tr (b.1 q h1 h2 h3), fun k h1 => (b.2.1 k h1).trans (a.2.1 k h1), fun k h1 h2 => (b.2.2.1 k h1 h2).trans (a.2.2.1 k h1 h2), b.2.2.2.1.trans a.2.2.2.1, fun q => (b.2.2.2.2.1 q).trans (a.2.2.2.2.1 q), fun q => (b.2.2.2.2.2 q).trans (a.2.2.2.2.2 q)⟩
theorem CE_h {h k : Nat} {M : Mem} {v : Int32} (hk : k ∈ ([5, 6, 7, 8, 9] : List Nat)) : CE h M (sI M h k v) := ⟨fun a x _ _ => Ea_sI x, fun j hj => by rw [mI_sI, if_neg (fun z : h = h ∧ j = k => hj (by rw [z.2]; exact hk))], fun j _ _ => by rw [mI_sI, if_neg (by omega)], rfl, fun _ => rfl, fun _ => rfl⟩
theorem CE_d {h k : Nat} {M : Mem} {v : Int32} (hk : k = 2 ∨ k = 4) : CE h M (sI M (h + 2) k v) := ⟨fun a _ x _ => Ea_sI x, fun j hj => by rw [mI_sI, if_neg (by omega)], fun j a b => by rw [mI_sI, if_neg (by omega)], rfl, fun _ => rfl, fun _ => rfl⟩
theorem CE_c {h k : Nat} {M : Mem} {v : Int32} : CE h M (sI M (h + 3) k v) := ⟨fun a _ _ x => Ea_sI x, fun j hj => by rw [mI_sI, if_neg (by omega)], fun j a b => by rw [mI_sI, if_neg (by omega)], rfl, fun _ => rfl, fun _ => rfl⟩
theorem CE_a {h : Nat} {M N : Mem} (a : AdE h M N) : CE h M N := by
  have e : ∀ q, mJ N q = mJ M q ∧ mR N q = mR M q ∧ mN N q = mN M q := fun q => by
    by_cases c : q = h
    · subst c; exact ⟨a.2.2.1, a.2.2.2.1, a.2.2.2.2⟩
    · have := a.1 q c; exact ⟨this.2.1, this.2.2.1, this.2.2.2⟩
  exact ⟨fun q h1 _ _ => a.1 q h1, fun k hk => a.2.1 k (fun z => hk (by rw [z]; decide)) (fun z => hk (by rw [z]; decide)) (fun z => hk (by rw [z]; decide)) (fun z => hk (by rw [z]; decide)), fun k _ _ => by rw [(a.1 (h + 2) (by omega)).1], funext fun q => (e q).2.2, fun q => (e q).1, fun q => (e q).2.1⟩
def CS (B : Nat → Nat) (L h o : Nat) (M : Mem) (p lv : Nat) (K : List (Nat × Nat)) (c : Nat) : Prop := TpC B L h M ∧ p ≤ L ∧ TkC B L h M p ∧ mI M h 5 = Int32.ofNat lv ∧ lv ≤ 50 ∧ KC h M K ∧ K.length + c ≤ tkS B L p ∧ mI M h 4 = (if o = 0 then 1 else 0)
/-- a fault was found at the token at p -/
def CF (B : Nat → Nat) (L h : Nat) (M : Mem) (f : Nat) : Prop := mI M h 6 = Int32.ofNat f ∧ mN M (h + 3) = 800 ∧ ∃ l : Nat, l ≤ 800 ∧ mI M (h + 2) 2 = Int32.ofNat l
theorem CS.cf {B : Nat → Nat} {L h o p lv c : Nat} {M : Mem} {K : List (Nat × Nat)} (s : CS B L h o M p lv K c) : CF B L h M (tkS B L p) := by
  have := tkS_le B s.2.1
  have := s.1.1
  have := s.2.2.2.2.2.2.1
  exact ⟨s.2.2.1.1, s.2.2.2.2.2.1.1, 2 * K.length, by omega, s.2.2.2.2.2.1.2.1⟩
theorem KC.keep {h : Nat} {M N : Mem} {K : List (Nat × Nat)} (k : KC h M K) (e2 : mI N (h + 2) = mI M (h + 2)) (e3 : mI N (h + 3) = mI M (h + 3)) (en : mN N (h + 3) = mN M (h + 3)) : KC h N K := by
  unfold KC; rw [e2, e3, en]; exact k
theorem adv_c {B : Nat → Nat} {L h o p lv c : Nat} {M : Mem} {K : List (Nat × Nat)} (s : CS B L h o M p lv K c) : So (FX5_advance h M) (fun r => r.1 = 1 ∧ CE h M r.2 ∧ mI r.2 (h + 2) = mI M (h + 2) ∧ CS B L h o r.2 (tkE B L p) lv K (c + (tkS B L (tkE B L p) - tkS B L p))) := by
  obtain ⟨s1', s2, s3, s4, s5, s6, s7, s8⟩ := s
  refine (advance_so s1' s3.2.1 (tkE_le B s2)).mono (fun r hr => ?_)
  obtain ⟨r1, r2, r3⟩ := hr
  have hm := tkS_mono B s2
  have e2 := (r2.1 (h + 2) (by omega)).1
  exact ⟨r1, CE_a r2, e2, s1'.keep r2, tkE_le B s2, r3, by rw [r2.2.1 5 (by decide) (by decide) (by decide) (by decide)]; exact s4, s5, s6.keep e2 (r2.1 (h + 3) (by omega)).1 (r2.1 (h + 3) (by omega)).2.2.2, by omega, by rw [r2.2.1 4 (by decide) (by decide) (by decide) (by decide)]; exact s8⟩
theorem CS.less {B : Nat → Nat} {L h o p lv c c' : Nat} {M : Mem} {K : List (Nat × Nat)} (s : CS B L h o M p lv K c) (hc : c' ≤ c) : CS B L h o M p lv K c' := ⟨s.1, s.2.1, s.2.2.1, s.2.2.2.1, s.2.2.2.2.1, s.2.2.2.2.2.1, by have := s.2.2.2.2.2.2.1; omega, s.2.2.2.2.2.2.2⟩
/-- on over a token that is there -/
theorem adv_c1 {B : Nat → Nat} {L h o p lv c : Nat} {M : Mem} {K : List (Nat × Nat)} (s : CS B L h o M p lv K c) (hk : tkK B L p ≠ 0) : So (FX5_advance h M) (fun r => r.1 = 1 ∧ CE h M r.2 ∧ mI r.2 (h + 2) = mI M (h + 2) ∧ CS B L h o r.2 (tkE B L p) lv K (c + 1)) := (adv_c s).mono (fun r hr => ⟨hr.1, hr.2.1, hr.2.2.1, hr.2.2.2.less (by have := tkS_lt B hk; omega)⟩)
theorem isSign_c {B : Nat → Nat} {L h p c : Nat} {M : Mem} (hp : TpC B L h M) (hT : TkC B L h M p) (hc : c < 256) : ∃ v : Int32, FX5_isSign h (Int32.ofNat c) M = some v ∧ (v = 1 ∧ isG B L p c ∨ v = 0 ∧ ¬ isG B L p c) := by
  obtain ⟨h1, h2, h3, h4⟩ := hT
  have hk4 : tkK B L p ≤ 3 := by unfold tkK; split; omega; split; omega; split <;> omega
  unfold FX5_isSign jn1 jn0; simp only []
  by_cases k1 : tkK B L p = 3
  · have hv : mI M h 9 = Int32.ofNat (B (tkS B L p)) := by
      rw [h4 (by omega)]; unfold tkV; rw [if_neg (by omega), if_neg (by omega)]
    have hb := (hp.2.2 (tkS B L p) (tk3_lt (by omega))).1
    rw [h3, if_neg (fun z => z (by rw [k1]; rfl)), hv]
    by_cases e : B (tkS B L p) = c
    · rw [if_neg (fun z => z (by rw [e]))]
      exact ⟨1, rfl, Or.inl ⟨rfl, k1, e⟩⟩
    · rw [if_pos (fun z => e ((nn_eq (by omega) (by omega)).mp z))]
      exact ⟨0, rfl, Or.inr ⟨rfl, fun z => e z.2⟩⟩
  · rw [h3, if_pos (show ¬ Int32.ofNat (tkK B L p) = 3 from fun z => k1 ((nn_eq (b := 3) (by omega) (by omega)).mp z))]
    exact ⟨0, rfl, Or.inr ⟨rfl, fun z => k1 z.1⟩⟩
theorem tkV_w {B : Nat → Nat} {L p j : Nat} (hj : j < 29) (hk : tkK B L p = 1) : tkV B L p = Int32.ofNat j ↔ isW B L p j := by
  unfold tkV; rw [if_pos hk, wIx_iff _ hj]
  exact ⟨fun z => ⟨hk, z⟩, fun z => z.2⟩
theorem skipWord_c {B : Nat → Nat} {L h o p lv c j : Nat} {M : Mem} {K : List (Nat × Nat)} (s : CS B L h o M p lv K c) (hj : j < 29) : So (FX5_skipWord h (Int32.ofNat j) M) (fun r => (isW B L p j ∧ r.1 = 1 ∧ CE h M r.2 ∧ mI r.2 (h + 2) = mI M (h + 2) ∧ CS B L h o r.2 (tkE B L p) lv K (c + 1)) ∨ (¬ isW B L p j ∧ r = (0, M))) := by
  obtain ⟨h1, h2, h3, h4⟩ := s.2.2.1
  have hk4 : tkK B L p ≤ 3 := by unfold tkK; split; omega; split; omega; split <;> omega
  unfold FX5_skipWord
  refine So_jn2 (So_jn1 ?_)
  by_cases k1 : tkK B L p = 1
  · rw [h3, if_neg (fun z => z (by rw [k1]; rfl)), h4 (by omega)]
    by_cases e : isW B L p j
    · rw [if_neg (fun z => z ((tkV_w hj k1).mpr e))]
      refine So_bdM (adv_c1 s (by omega)) (fun r M1 hr => ?_)
      have hr1 : r = 1 := hr.1
      rw [hr1, if_neg (by decide)]
      exact So_gd rfl (So.ok (Or.inl ⟨e, rfl, hr.2⟩))
    · rw [if_pos (fun z => e ((tkV_w hj k1).mp z))]
      exact So_gd rfl (So.ok (Or.inr ⟨e, rfl⟩))
  · rw [h3, if_pos (show ¬ Int32.ofNat (tkK B L p) = 1 from fun z => k1 ((nn_eq (b := 1) (by omega) (by omega)).mp z))]
    exact So_gd rfl (So.ok (Or.inr ⟨fun z => k1 z.1, rfl⟩))
theorem skipSign_c {B : Nat → Nat} {L h o p lv c j : Nat} {M : Mem} {K : List (Nat × Nat)} (s : CS B L h o M p lv K c) (hj : j < 256) : So (FX5_skipSign h (Int32.ofNat j) M) (fun r => (isG B L p j ∧ r.1 = 1 ∧ CE h M r.2 ∧ mI r.2 (h + 2) = mI M (h + 2) ∧ CS B L h o r.2 (tkE B L p) lv K (c + 1)) ∨ (¬ isG B L p j ∧ r = (0, M))) := by
  obtain ⟨v, hv, hv2⟩ := isSign_c s.1 s.2.2.1 hj
  unfold FX5_skipSign
  rw [hv]
  refine So.bindE rfl (So_jn2 (So_jn1 ?_))
  rcases hv2 with ⟨rfl, g⟩ | ⟨rfl, g⟩
  · rw [if_neg (by decide)]
    refine So_bdM (adv_c1 s (RS.tkne g)) (fun r M1 hr => ?_)
    have hr1 : r = 1 := hr.1
    rw [hr1, if_neg (by decide)]
    exact So_gd rfl (So.ok (Or.inl ⟨g, rfl, hr.2⟩))
  · rw [if_pos rfl]
    exact So_gd rfl (So.ok (Or.inr ⟨g, rfl⟩))
theorem cC_app {cd : Nat → Int32} {a : Nat} {X Y : List (Nat × Nat)} (h1 : cC cd a X) (h2 : cC cd (a + X.length) Y) : cC cd a (X ++ Y) := by
  intro i hi
  by_cases c : i < X.length
  · rw [gD_app_l c]; exact h1 i c
  · obtain ⟨j, rfl⟩ : ∃ j, i = X.length + j := ⟨i - X.length, by omega⟩
    rw [gD_app_r, ← Nat.add_assoc]
    exact h2 j (by rw [List.length_append] at hi; omega)
theorem put_c {B : Nat → Nat} {L h o p lv c st w : Nat} {M : Mem} {K : List (Nat × Nat)} (s : CS B L h o M p lv K (c + 1)) : So (FX9_put (h + 2) (Int32.ofNat st) (Int32.ofNat w) M) (fun r => r.1 = Int32.ofNat (2 * K.length) ∧ CE h M r.2 ∧ mI r.2 (h + 2) 4 = mI M (h + 2) 4 ∧ CS B L h o r.2 p lv (K ++ [(st, w)]) c) := by
  obtain ⟨s1', s2, s3, s4, s5, ⟨k1, k2, k3, k4⟩, s7, s8⟩ := s
  have hs := tkS_le B s2
  have hL := s1'.1
  unfold FX9_put
  refine So_nm (So_jn1 ?_)
  rw [show h + 2 + 1 = h + 3 by omega, k1, k2, s1]
  rw [if_neg (nle (show 2 * K.length + 1 < 800 by omega) (by decide)), nn_ix (by omega)]
  refine So_gd (inb_nn (by omega) (by decide)) (So_nm ?_)
  have e1 : mI (sI M (h + 3) (2 * K.length) (Int32.ofNat st)) (h + 2) 2 = Int32.ofNat (2 * K.length) := by rw [mI_sI, if_neg (by omega)]; exact k2
  have n1 : mN (sI M (h + 3) (2 * K.length) (Int32.ofNat st)) (h + 3) = 800 := k1
  rw [e1, n1, s1, nn_ix (by omega)]
  refine So_gd (inb_nn (by omega) (by decide)) (So_nm (So_nm (So.ok ?_)))
  have e2 : mI (sI (sI M (h + 3) (2 * K.length) (Int32.ofNat st)) (h + 3) (2 * K.length + 1) (Int32.ofNat w)) (h + 2) 2 = Int32.ofNat (2 * K.length) := by rw [mI_sI, if_neg (by omega)]; exact e1
  rw [e2, two_s]
  generalize hM' : sI (sI (sI M (h + 3) (2 * K.length) (Int32.ofNat st)) (h + 3) (2 * K.length + 1) (Int32.ofNat w)) (h + 2) 2 (Int32.ofNat (2 * (K.length + 1))) = M'
  have E : CE h M M' := by rw [← hM']; exact (CE_c.tr CE_c).tr (CE_d (Or.inl rfl))
  have f : ∀ k, mI M' h k = mI M h k := fun k => by rw [← hM', mI_sI, if_neg (by omega), mI_sI, if_neg (by omega), mI_sI, if_neg (by omega)]
  have g4 : mI M' (h + 2) 4 = mI M (h + 2) 4 := by rw [← hM', mI_sI, if_neg (by simp), mI_sI, if_neg (by omega), mI_sI, if_neg (by omega)]
  refine ⟨rfl, E, g4, ⟨s1'.1, by rw [f]; exact s1'.2.1, fun k hk => by rw [(E.1 (h + 1) (by omega) (by omega) (by omega)).1]; exact s1'.2.2 k hk⟩, s2, ⟨by rw [f]; exact s3.1, by rw [f]; exact s3.2.1, by rw [f]; exact s3.2.2.1, fun z => by rw [f]; exact s3.2.2.2 z⟩, by rw [f]; exact s4, s5, ⟨by rw [E.2.2.2.1]; exact k1, ?_, ?_, by rw [g4]; exact k4⟩, ?_, by rw [f]; exact s8⟩
  · rw [← hM', mI_sI, if_pos ⟨rfl, rfl⟩]; simp
  · have c3 : ∀ k, mI M' (h + 3) k = if k = 2 * K.length + 1 then Int32.ofNat w else if k = 2 * K.length then Int32.ofNat st else mI M (h + 3) k := fun k => by
      rw [← hM', mI_sI, if_neg (by omega), mI_sI, mI_sI]
      by_cases z : k = 2 * K.length + 1
      · rw [if_pos ⟨rfl, z⟩, if_pos z]
      · rw [if_neg (fun y => z y.2), if_neg z]
        by_cases z2 : k = 2 * K.length
        · rw [if_pos ⟨rfl, z2⟩, if_pos z2]
        · rw [if_neg (fun y => z2 y.2), if_neg z2]
    refine cC_app (fun i hi => ?_) (fun i hi => ?_)
    · rw [c3, c3, if_neg (by omega), if_neg (by omega), if_neg (by omega), if_neg (by omega)]; exact k3 i hi
    · have : i = 0 := by simp at hi; omega
      subst this
      simp only [Nat.zero_add, Nat.add_zero]
      rw [c3, c3, if_neg (by omega), if_pos rfl, if_pos rfl]
      exact ⟨rfl, rfl⟩
  · rw [List.length_append]; simp only [List.length_cons, List.length_nil]; omega
/-- what is put where a fault was found matters no more -/
theorem put_f {B : Nat → Nat} {L h f : Nat} {a b : Int32} {M : Mem} (s : CF B L h M f) : So (FX9_put (h + 2) a b M) (fun r => CE h M r.2 ∧ CF B L h r.2 f) := by
  obtain ⟨s1', s2, l, s3, s4⟩ := s
  unfold FX9_put
  refine So_nm (So_jn1 ?_)
  rw [show h + 2 + 1 = h + 3 by omega, s2, s4, s1]
  by_cases c : 800 ≤ l + 1
  · rw [if_pos ((nn_le (by omega) (by omega)).mpr c)]
    exact So.ok ⟨CE.rf, s1', s2, l, s3, s4⟩
  · rw [if_neg (nle (show l + 1 < 800 by omega) (by decide)), nn_ix (by omega)]
    refine So_gd (inb_nn (by omega) (by decide)) (So_nm ?_)
    have e1 : mI (sI M (h + 3) l a) (h + 2) 2 = Int32.ofNat l := by rw [mI_sI, if_neg (by omega)]; exact s4
    have n1 : mN (sI M (h + 3) l a) (h + 3) = 800 := s2
    rw [e1, n1, s1, nn_ix (by omega)]
    refine So_gd (inb_nn (by omega) (by decide)) (So_nm (So_nm (So.ok ?_)))
    have e2 : mI (sI (sI M (h + 3) l a) (h + 3) (l + 1) b) (h + 2) 2 = Int32.ofNat l := by rw [mI_sI, if_neg (by omega)]; exact e1
    rw [e2]
    refine ⟨(CE_c.tr CE_c).tr (CE_d (Or.inl rfl)), ?_, s2, l + 2, by omega, ?_⟩
    · rw [mI_sI, if_neg (by omega), mI_sI, if_neg (by omega), mI_sI, if_neg (by omega)]; exact s1'
    · rw [mI_sI, if_pos ⟨rfl, rfl⟩]; exact nn_add l 2
theorem leave_f {B : Nat → Nat} {L h f n : Nat} {M : Mem} (s : CF B L h M f) (hn : n < 2147483646) : So (FX9_leaveToHere (h + 2) (Int32.ofNat n) M) (fun N => CE h M N ∧ CF B L h N f) := by
  obtain ⟨s1', s2, l, s3, s4⟩ := s
  unfold FX9_leaveToHere
  refine So_jn1 ?_
  refine So.ite (fun _ => So.ok ⟨CE.rf, s1', s2, l, s3, s4⟩) (fun c0 => So.ite (fun _ => So.ok ⟨CE.rf, s1', s2, l, s3, s4⟩) (fun c => ?_))
  rw [show h + 2 + 1 = h + 3 by omega, s2] at c ⊢
  rw [s1] at c ⊢
  have c' : n + 1 < 800 := by
    apply Classical.byContradiction
    intro z
    exact c ((nn_le (by omega) (by omega)).mpr (by omega))
  refine So_gd (inb_nn c' (by decide)) (So_nm (So.ok ⟨CE_c, ?_, s2, l, s3, ?_⟩))
  · rw [mI_sI, if_neg (by omega)]; exact s1'
  · rw [mI_sI, if_neg (by omega)]; exact s4
theorem leave_c {B : Nat → Nat} {L h o p lv c op : Nat} {M : Mem} {K Y : List (Nat × Nat)} (s : CS B L h o M p lv (K ++ [(op, 0)] ++ Y) c) : So (FX9_leaveToHere (h + 2) (Int32.ofNat (2 * K.length)) M) (fun N => CE h M N ∧ mI N (h + 2) 4 = mI M (h + 2) 4 ∧ CS B L h o N p lv (K ++ (op, 2 * (K.length + 1 + Y.length)) :: Y) c) := by
  obtain ⟨s1', s2, s3, s4, s5, ⟨k1, k2, k3, k4⟩, s7, s8⟩ := s
  have hs := tkS_le B s2
  have hL := s1'.1
  have hlen : (K ++ [(op, 0)] ++ Y).length = K.length + 1 + Y.length := by simp only [List.length_append, List.length_cons, List.length_nil]
  rw [hlen] at s7 k2
  unfold FX9_leaveToHere
  refine So_jn1 ?_
  rw [if_neg (show ¬ Int32.ofNat (2 * K.length) < 0 by rw [Int32.lt_iff_toInt_lt, nn_int (by omega), show (0 : Int32).toInt = 0 from rfl]; omega), show h + 2 + 1 = h + 3 by omega, k1, s1, if_neg (nle (show 2 * K.length + 1 < 800 by omega) (by decide)), nn_ix (by omega), k2]
  refine So_gd (inb_nn (by omega) (by decide)) (So_nm (So.ok ?_))
  generalize hM' : sI M (h + 3) (2 * K.length + 1) (Int32.ofNat (2 * (K.length + 1 + Y.length))) = M'
  have E : CE h M M' := by rw [← hM']; exact CE_c
  have f : ∀ k, mI M' h k = mI M h k := fun k => by rw [← hM', mI_sI, if_neg (by omega)]
  have g : ∀ k, mI M' (h + 2) k = mI M (h + 2) k := fun k => by rw [← hM', mI_sI, if_neg (by omega)]
  refine ⟨E, g 4, ⟨s1'.1, by rw [f]; exact s1'.2.1, fun k hk => by rw [(E.1 (h + 1) (by omega) (by omega) (by omega)).1]; exact s1'.2.2 k hk⟩, s2, ⟨by rw [f]; exact s3.1, by rw [f]; exact s3.2.1, by rw [f]; exact s3.2.2.1, fun z => by rw [f]; exact s3.2.2.2 z⟩, by rw [f]; exact s4, s5, ⟨by rw [E.2.2.2.1]; exact k1, ?_, ?_, by rw [g]; exact k4⟩, ?_, by rw [f]; exact s8⟩
  · rw [g, k2]; simp only [List.length_append, List.length_cons]; congr 2; omega
  · have c3 : ∀ k, mI M' (h + 3) k = if k = 2 * K.length + 1 then Int32.ofNat (2 * (K.length + 1 + Y.length)) else mI M (h + 3) k := fun k => by
      rw [← hM', mI_sI]
      by_cases z : k = 2 * K.length + 1
      · rw [if_pos ⟨rfl, z⟩, if_pos z]
      · rw [if_neg (fun y => z y.2), if_neg z]
    have kK : cC (mI M (h + 3)) 0 K := k3.l.l
    have k0 := k3.l.r 0 (by simp)
    have kY : cC (mI M (h + 3)) (K.length + 1) Y := by
      have := k3.r
      simpa using this
    refine cC_app (fun i hi => ?_) (cC_app (X := [(op, 2 * (K.length + 1 + Y.length))]) (Y := Y) (fun i hi => ?_) (fun i hi => ?_))
    · rw [c3, c3, if_neg (by omega), if_neg (by omega)]; exact kK i hi
    · have : i = 0 := by simp at hi; omega
      subst this
      simp only [Nat.zero_add, Nat.add_zero] at k0 ⊢
      rw [c3, c3, if_neg (by omega), if_pos rfl]
      exact ⟨k0.1, rfl⟩
    · have := kY i hi
      simp only [Nat.zero_add, List.length_cons, List.length_nil]
      rw [c3, c3, if_neg (by omega), if_neg (by omega)]
      exact this
  · simp only [List.length_append, List.length_cons]; omega
