/-! ===== few, row, count ===== -/
theorem st_few : St_few Inv := by
  rintro t u T M p1 p2 a ⟨Λ, h⟩ ha
  have hu := h.1
  have hT := h.2.1
  obtain ⟨d1, -, -, d4, -, -⟩ := h.2.2.1.2.2.2.2.2
  obtain ⟨m, hm, em⟩ := nn_exi (i := mI M (u + 2) 5) d4.1
  rw [em, nn_int hm] at d4
  rw [em] at d1
  have j1 : FX12_in p1.toInt64 1 20 = some (if 1 ≤ p1.toInt ∧ p1.toInt ≤ 20 then 1 else 0) := in_i p1 1 20
  have j2 : FX12_in p2.toInt64 0 99 = some (if 0 ≤ p2.toInt ∧ p2.toInt ≤ 99 then 1 else 0) := in_i p2 0 99
  by_cases hp : (1 ≤ p1.toInt ∧ p1.toInt ≤ 20) ∧ (0 ≤ p2.toInt ∧ p2.toInt ≤ 99)
  · obtain ⟨⟨a1, a2⟩, a3, a4⟩ := hp
    obtain ⟨k, hk, rfl⟩ := nn_exi (i := p1) (by omega)
    obtain ⟨n, hn, rfl⟩ := nn_exi (i := p2) a3
    rw [nn_int hk] at a1 a2
    rw [nn_int hn] at a3 a4
    obtain ⟨⟨v, G, M1⟩, e1, e2, e3, e4⟩ := few_class (t := t) (a := a) (M := M) (k := k) (n := n) (m := m) (by omega) (by omega) (by omega) d1
    have e2 : v = Int64.ofNat (fwS m n k) := e2
    have e3 : G = [(21, 20)] := e3
    have e4 : Eo (fun q => q = a) M M1 := e4
    obtain ⟨⟨w, M2⟩, f1, f2, f3⟩ := few_model (u := u) (M := M1) (k := k) (n := n) (m := m) (by omega) (by omega) (by omega) (by rw [(e4 (u + 2) (by omega)).1]; exact em)
    have f2 : w = Int64.ofNat (fwS m n k) := f2
    have f3 : Eo (fun q => q = u + 38) (sI M1 u 0 0) M2 := f3
    refine ⟨v, G, M1, M2, e1, ?_, Λ, ?_⟩
    · rw [f1, e2, f2]
    · rw [e3]
      show InvL Λ t u (a + 1) M2
      have hE : ∀ q, q ≠ a → q ≠ u → q ≠ u + 38 → Ea M M2 q := fun q a b c => ((e4 q a).tr (Ea_sI b)).tr (f3 q c)
      have hU : ∀ k, k ≠ 0 → mI M2 u k = mI M u k := fun k hk => by rw [(f3 u (by omega)).1, mI_n2 hk, (e4 u (by omega)).1]
      refine h.same (fun q hq => by unfold Used at hq; exact hE q (by omega) (by omega) (by omega)) (fun k _ => by rw [(hE t (by omega) (by omega) (by omega)).1]) (fun k _ => by rw [(hE (t + 171) (by omega) (by omega) (by omega)).1]) (fun k hk => hU k (fun z => by rw [z] at hk; exact absurd hk (by decide))) (by omega)
  · refine ⟨-1, [], M, sI M u 0 0, ?_, ?_, Λ, h.u0 0⟩
    · unfold FX11_few
      rw [jb]
      by_cases c1 : p1 < 1
      · rw [if_pos c1]
      rw [if_neg c1]
      by_cases c2 : 20 < p1
      · rw [if_pos c2]
      rw [if_neg c2]
      by_cases c3 : p2 < 0
      · rw [if_pos c3]
      rw [if_neg c3]
      by_cases c4 : p2 ≤ 99
      · have b1 : ¬ p1.toInt < 1 := fun z => c1 (Int32.lt_iff_toInt_lt.mpr z)
        have b2 : ¬ 20 < p1.toInt := fun z => c2 (Int32.lt_iff_toInt_lt.mpr z)
        have b3 : ¬ p2.toInt < 0 := fun z => c3 (Int32.lt_iff_toInt_lt.mpr z)
        have b4 : p2.toInt ≤ 99 := Int32.le_iff_toInt_le.mp c4
        exact absurd ⟨⟨by omega, by omega⟩, by omega, b4⟩ hp
      · rw [if_neg c4]
    · unfold FX12_few
      rw [nmb, ob j1, jb]
      by_cases c1 : 1 ≤ p1.toInt ∧ p1.toInt ≤ 20
      · rw [if_neg (by rw [if_pos c1]; decide), ob j2, if_neg (by rw [if_neg (fun z => hp ⟨c1, z⟩)]; decide)]
      · rw [if_pos (by rw [if_neg c1])]
theorem rwP_le (b : Nat → Nat) (i : Nat) : (cs (rwP b i)).length ≤ 6 := by
  induction i with
  | zero => show (cs (fun _ => false)).length ≤ 6; decide
  | succ i ih =>
    by_cases hq : rwQ (rwP b i) (b i) = true
    · rw [rwP_yes b i hq]
      unfold rwQ at hq
      simp only [Bool.and_eq_true, decide_eq_true_eq, Bool.not_eq_true'] at hq
      rw [cs_ins _ _ (by simpa using hq.2.1) (by omega)]; omega
    · rw [rwP_no b i (by simpa using hq)]; exact ih
/-- the tape may have changed too -/
theorem InvL.updT {Λ : Lam} {t u T : Nat} {M N : Mem} (h : InvL Λ t u T M) (hS : SR Λ N (u + 42) T (t + 1) (mI N (u + 2))) (hH : HR N (t + 29) u) (hP : TP t u N) (hM : MSr N t u) (e : ∀ q, UsedC t u T q → q ≠ t + 172 → q ≠ u + 9 → Ea M N q) (e20 : mI N u 20 = mI M u 20) : InvL Λ t u T N := by
  obtain ⟨h1, h2, h3, h4, h5, h6, h7, h8, h9, h10⟩ := h
  have eT : ∀ q, u + 42 ≤ q → q < T → Ea M N q := fun q a b => e q (by unfold UsedC; omega) (by omega) (by omega)
  have g : ∀ q, UsedC t u T q → q ≠ t + 172 → q ≠ u + 9 → mI N q = mI M q := fun q a b c => (e q a b c).1
  refine ⟨h1, h2, hS, h4.keep (fun q a b => e q (by unfold UsedC; omega) (by omega) (by omega)) (g _ (by unfold UsedC; omega) (by omega) (by omega)) (g _ (by unfold UsedC; omega) (by omega) (by omega)) eT (Nat.le_refl _), hH, hP, hM, h8.keep (fun q a b => e q (by unfold UsedC; omega) (by omega) (by omega)) eT (Nat.le_refl _), h9.keep (fun q a b => e q (by unfold UsedC; omega) (by omega) (by omega)) eT (Nat.le_refl _), ?_⟩
  obtain ⟨k1, k2, k3, k4⟩ := h10
  exact ⟨k1.keepE (e _ (by unfold UsedC; omega) (by omega) (by omega)).2.1 (e _ (by unfold UsedC; omega) (by omega) (by omega)).2.1 (e _ (by unfold UsedC; omega) (by omega) (by omega)).2.1 (e _ (by unfold UsedC; omega) (by omega) (by omega)).2.1, by rw [(e (t + 174) (by unfold UsedC; omega) (by omega) (by omega)).2.2.2]; exact k2, by rw [(e (t + 175) (by unfold UsedC; omega) (by omega) (by omega)).2.2.2]; exact k3, by rw [e20]; exact k4⟩
theorem st_row : St_row Inv := by
  rintro t u T M ⟨Λ, h⟩
  have hu := h.1
  have hT := h.2.1
  obtain ⟨L, hL, l1, l2, l3⟩ := h.2.2.2.2.2.1
  by_cases h0 : L = 0
  · subst h0
    refine st_ref (j := 4) h (by decide) ?_ ?_
    · unfold FX11_row
      rw [l1, if_neg (by decide)]; rfl
    · unfold FX12_row
      have x1 : mI (sI (RfM t 4 M) u 0 0) u 13 = 0 := by unfold RfM; simp (disch := omega) only [mI_n1, mI_n2, mI_e, mJ_n1, mJ_n2, mJ_e, mI_sJ, mI_sR, mJ_sI, mJ_sR, mR_sI, mR_sJ]; exact l2
      rw [nmb, nmb, nmb, x1, if_neg (by decide), sI_id _ _ _ _ x1]; rfl
  · generalize hb0 : (fun k => (mI M (t + 172) k).toInt.toNat) = b
    have hb : ∀ k, k < L → b k < 256 ∧ mI M (t + 172) k = Int32.ofNat (b k) := fun k hk => by
      obtain ⟨-, n, n1, n2⟩ := l3 k hk
      have : b k = n := by rw [← hb0]; show (mI M (t + 172) k).toInt.toNat = n; rw [n2, nn_int (by omega)]; omega
      rw [this]; exact ⟨n1, n2⟩
    obtain ⟨⟨v, M1⟩, e1, w, e2, e3⟩ := row_c (t := t) (M := M) (L := L) (b := b) (by omega) l1 hb
    have e4 : v = Int32.ofNat (cs (rwP b L)).length := (Prod.mk.inj e3).1
    have e5 : M1 = sI (sI (sI (sJ M (t + 1) 5 w) t 17 (Int32.ofNat (rwJ b L))) (t + 171) 2 0) t 16 0 := (Prod.mk.inj e3).2
    obtain ⟨⟨v2, M2⟩, f1, f2, N, ⟨f3, f4, f5, f6, f7, f8, f9, -, -⟩, f10⟩ := row_r (u := u) (M := M1) (L := L) (b := b) (by omega) (by rw [e5]; simp (disch := omega) only [mI_n1, mI_n2, mI_e, mJ_n1, mJ_n2, mJ_e, mI_sJ, mI_sR, mJ_sI, mJ_sR, mR_sI, mR_sJ]; exact l2) (fun k hk => by
      obtain ⟨b1, b2⟩ := hb k hk
      refine ⟨b1, ?_⟩
      rw [e5]; simp (disch := omega) only [mI_n1, mI_n2, mI_e, mJ_n1, mJ_n2, mJ_e, mI_sJ, mI_sR, mJ_sI, mJ_sR, mR_sI, mR_sJ]
      rw [(l3 k hk).1]; exact b2)
    have f2 : v2 = Int32.ofNat (cs (rwP b L)).length := f2
    have f10 : M2 = sI N u 1 0 := f10
    refine ⟨v, M1, M2, e1, by rw [f1, f2, e4], Λ, ?_⟩
    have E0 : ∀ q, q ≠ t → q ≠ t + 1 → q ≠ t + 171 → q ≠ u → q ≠ u + 2 → Ea M M2 q := fun q a b c d e => by
      rw [f10]
      refine Ea.tr ?_ (Ea_sI d)
      refine Ea.tr ?_ (f3 q (by omega))
      rw [e5]; (repeat (first | exact Ea.rf _ _ | refine Ea.tr ?_ (Ea_sI (by omega)) | refine Ea.tr ?_ (Ea_sJ (by omega))))
    have U0 : ∀ q, q ≠ u → q ≠ u + 2 → Ea M1 M2 q := fun q a b => by
      rw [f10]
      exact (f3 q (by omega)).tr (Ea_sI a)
    have g2 : ∀ k, mI M2 (u + 2) k = mI N (u + 2) k := fun k => by rw [f10]; simp (disch := omega) only [mI_n1, mI_n2, mI_e, mJ_n1, mJ_n2, mJ_e, mI_sJ, mI_sR, mJ_sI, mJ_sR, mR_sI, mR_sJ]
    have rr : ∀ k, (k < 130 ∨ 182 ≤ k) → mI M2 (u + 2) k = mI M (u + 2) k := fun k hk => by
      rw [g2, f5 k hk, e5]; simp (disch := omega) only [mI_n1, mI_n2, mI_e, mJ_n1, mJ_n2, mJ_e, mI_sJ, mI_sR, mJ_sI, mJ_sR, mR_sI, mR_sJ]
    have r1 : ∀ c, c < 52 → mI M2 (u + 2) (130 + c) = if rwP b L c = true then 1 else 0 := fun c hc => by rw [g2]; exact f4 c hc
    have hP : ∀ c, c < 52 → decide (mI M2 (u + 2) (130 + c) = 1) = rwP b L c := fun c hc => by
      rw [r1 c hc]
      cases rwP b L c <;> rfl
    have uu : ∀ k, k ≠ 0 → k ≠ 13 → k ≠ 11 → k ≠ 1 → mI M2 u k = mI M u k := fun k a b c d => by
      rw [f10, mI_n2 d, f9 k a b c, e5]; simp (disch := omega) only [mI_n1, mI_n2, mI_e, mJ_n1, mJ_n2, mJ_e, mI_sJ, mI_sR, mJ_sI, mJ_sR, mR_sI, mR_sJ]
    have hS : SR Λ M2 (u + 42) T (t + 1) (mI M2 (u + 2)) := by
      refine h.2.2.1.upd (fun q hq => E0 q (by omega) (by omega) (by omega) (by omega) (by omega)) (fun q a b => E0 q (by omega) (by omega) (by omega) (by omega) (by omega)) (by rw [(U0 (t + 1) (by omega) (by omega)).1, e5]; simp (disch := omega) only [mI_n1, mI_n2, mI_e, mJ_n1, mJ_n2, mJ_e, mI_sJ, mI_sR, mJ_sI, mJ_sR, mR_sI, mR_sJ]) (by rw [(U0 (t + 1) (by omega) (by omega)).1, e5]; simp (disch := omega) only [mI_n1, mI_n2, mI_e, mJ_n1, mJ_n2, mJ_e, mI_sJ, mI_sR, mJ_sI, mJ_sR, mR_sI, mR_sJ]) (fun k hk => rr k (by omega)) ⟨?_, fun c hc => ?_, ?_⟩ ?_
      · have : mJ M2 (t + 1) 5 = w := by rw [(U0 (t + 1) (by omega) (by omega)).2.1, e5]; simp (disch := omega) only [mI_n1, mI_n2, mI_e, mJ_n1, mJ_n2, mJ_e, mI_sJ, mI_sR, mJ_sI, mJ_sR, mR_sI, mR_sJ]
        rw [this]; exact e2.congr (fun c hc => (hP c hc).symm)
      · rw [r1 c hc]; cases rwP b L c
        · exact Or.inl rfl
        · exact Or.inr rfl
      · have : cs (fun c => decide (mI M2 (u + 2) (130 + c) = 1)) = cs (rwP b L) := by
          unfold cs
          exact List.filter_congr (fun d hd => hP d (List.mem_range.mp hd))
        rw [this]; exact rwP_le b L
      · obtain ⟨m, s1', s2, s3, s4⟩ := h.2.2.1.2.2.2.1
        refine ⟨m, s1', by rw [(U0 (t + 1) (by omega) (by omega)).1, e5]; simp (disch := omega) only [mI_n1, mI_n2, mI_e, mJ_n1, mJ_n2, mJ_e, mI_sJ, mI_sR, mJ_sI, mJ_sR, mR_sI, mR_sJ]; exact s2, by rw [rr 0 (by omega)]; exact s3, fun k hk => ?_⟩
        rw [rr _ (by omega), rr _ (by omega), (E0 (t + 1 + 5) (by omega) (by omega) (by omega) (by omega) (by omega)).1, (E0 (t + 1 + 6) (by omega) (by omega) (by omega) (by omega) (by omega)).1]
        exact s4 k hk
    have hH := h.hr (N := M2) (fun q a b => E0 q (by omega) (by omega) (by omega) (by omega) (by omega)) (E0 _ (by omega) (by omega) (by omega) (by omega) (by omega)).1 (E0 _ (by omega) (by omega) (by omega) (by omega) (by omega)).1 (uu 8 (by decide) (by decide) (by decide) (by decide))
    have hTP : TP t u M2 := ⟨0, by omega, by rw [(U0 (t + 171) (by omega) (by omega)).1, e5]; simp (disch := omega) only [mI_n1, mI_n2, mI_e, mJ_n1, mJ_n2, mJ_e, mI_sJ, mI_sR, mJ_sI, mJ_sR, mR_sI, mR_sJ]; rfl, by rw [f10, mI_n2 (by decide)]; exact f7, fun k hk => absurd hk (by omega)⟩
    refine h.updT hS hH hTP ?_ (fun q hq a b => by unfold UsedC at hq; exact E0 q (by omega) (by omega) (by omega) (by omega) (by omega)) (uu 20 (by decide) (by decide) (by decide) (by decide))
    obtain ⟨m1, m2, m3, m4, m5, m6⟩ := h.2.2.2.2.2.2.1
    refine ⟨?_, ?_, ?_, ?_, fun j hj => ?_, ?_⟩
    · rw [(U0 t (by omega) (by omega)).1, f10, mI_e, e5]; simp (disch := omega) only [mI_n1, mI_n2, mI_e, mJ_n1, mJ_n2, mJ_e, mI_sJ, mI_sR, mJ_sI, mJ_sR, mR_sI, mR_sJ]
    · rw [(U0 t (by omega) (by omega)).1, f10, mI_n2 (by decide), f8, e5]; simp (disch := omega) only [mI_n1, mI_n2, mI_e, mJ_n1, mJ_n2, mJ_e, mI_sJ, mI_sR, mJ_sI, mJ_sR, mR_sI, mR_sJ]
    · rw [(U0 t (by omega) (by omega)).1, uu 64 (by decide) (by decide) (by decide) (by decide), e5]; simp (disch := omega) only [mI_n1, mI_n2, mI_e, mJ_n1, mJ_n2, mJ_e, mI_sJ, mI_sR, mJ_sI, mJ_sR, mR_sI, mR_sJ]; exact m3
    · rw [(U0 (t + 171) (by omega) (by omega)).1, uu 18 (by decide) (by decide) (by decide) (by decide), e5]; simp (disch := omega) only [mI_n1, mI_n2, mI_e, mJ_n1, mJ_n2, mJ_e, mI_sJ, mI_sR, mJ_sI, mJ_sR, mR_sI, mR_sJ]; exact m4
    · rw [(E0 (t + 275) (by omega) (by omega) (by omega) (by omega) (by omega)).1, (E0 (u + 1) (by omega) (by omega) (by omega) (by omega) (by omega)).1]; exact m5 j hj
    · unfold DrR
      rw [uu 67 (by decide) (by decide) (by decide) (by decide), (E0 (t + 276) (by omega) (by omega) (by omega) (by omega) (by omega)).1, (E0 (u + 41) (by omega) (by omega) (by omega) (by omega) (by omega)).1]; exact m6
