theorem st_law : St_law Inv := by
  rintro t u T M a ⟨Λ, h⟩ ha
  have hu := h.1
  have hT := h.2.1
  obtain ⟨n0, c1, c2, c3, c4, c5, c6⟩ := h.2.2.1.2.2.2.2.1
  obtain ⟨L, hL, l1, l2, l3⟩ := h.2.2.2.2.2.1
  obtain ⟨K0, k174, k175, k20⟩ := h.2.2.2.2.2.2.2.2.2
  have f18 : mI M (t + 171) 3 = mI M u 18 := h.2.2.2.2.2.2.1.2.2.2.1
  by_cases h6 : n0 = 6
  · subst h6
    generalize hC : sI M (t + 171) 2 0 = C
    have ec : ∀ q, q ≠ t + 171 → Ea M C q := fun q hq => by rw [← hC]; exact Ea_sI hq
    obtain ⟨W, w1, w2⟩ := h.refX (j := 3) (C := C) (R := sI (sI (RfM t 3 C) u 0 0) u 13 0) (by decide) (fun q hq => ec q (by unfold UsedN at hq; omega)) (by rw [← hC]; rfl) (by rw [← hC]; rfl) (by rw [← hC, mI_e]) (fun q a b c => by (repeat (first | exact Ea.rf _ _ | refine Ea.tr ?_ (Ea_sI (by omega)) | refine Ea.tr ?_ (Ea_sJ (by omega))))) (by rw [mI_e]) (by rw [mI_n2 (by decide), mI_n2 (by decide)]; unfold RfM; rw [← hC]; simp (disch := omega) only [mI_n1, mI_n2, mI_e, mJ_n1, mJ_n2, mJ_e, mI_sJ, mI_sR, mJ_sI, mJ_sR, mR_sI, mR_sJ]; exact f18) (fun k hk => by
      have k0 : k ≠ 0 := fun z => by rw [z] at hk; exact absurd hk (by decide)
      have k13 : k ≠ 13 := fun z => by rw [z] at hk; exact absurd hk (by decide)
      rw [mI_n2 k13, mI_n2 k0]; unfold RfM; rw [← hC]; simp (disch := omega) only [mI_n1, mI_n2, mI_e, mJ_n1, mJ_n2, mJ_e, mI_sJ, mI_sR, mJ_sI, mJ_sR, mR_sI, mR_sJ])
    refine ⟨-5, [], RfM t 3 C, W, ?_, ?_, Λ, w2⟩
    · unfold FX11_law
      rw [c2, if_neg (by decide), nmb, hC, bo (refuse_eq (j := 3) (c := -5) (by decide) rfl)]; rfl
    · rw [law_eq, nmb, if_neg (show ¬ ¬ mI (sI (RfM t 3 C) u 0 0) (u + 2) 1 = 6 from fun z => z (by unfold RfM; rw [← hC]; simp (disch := omega) only [mI_n1, mI_n2, mI_e, mJ_n1, mJ_n2, mJ_e, mI_sJ, mI_sR, mJ_sI, mJ_sR, mR_sI, mR_sJ]; exact c3)), nmb]
      exact w1
  have h0 : n0 < 6 := by omega
  generalize hB : (fun k => (mI M (t + 172) k).toInt.toNat) = B
  have hb : ∀ k, k < L → B k < 256 ∧ mI M (t + 172) k = Int32.ofNat (B k) := fun k hk => by
    obtain ⟨-, n, n1, n2⟩ := l3 k hk
    have : B k = n := by rw [← hB]; show (mI M (t + 172) k).toInt.toNat = n; rw [n2, nn_int (by omega)]; omega
    rw [this]; exact ⟨n1, n2⟩
  obtain ⟨⟨r4, M3⟩, e1, X, x2, hcs⟩ := readLaw_c (B := B) (L := L) (h := t + 171) (M := M) ⟨hL, l1, hb⟩ k174 k175
  have X : CX (t + 171) M M3 := X
  have x2 : mI M3 (t + 171) 2 = 0 := x2
  have X1 : ∀ q, q ≠ t + 171 → q ≠ t + 173 → q ≠ t + 174 → q ≠ t + 175 → Ea M M3 q := fun q a b c d => X.1 q a b c d
  have XN : mN M3 = mN M := X.2.2.2.1
  have tp : ∀ N : Mem, Ea M N u → Ea M N (u + 9) → TpR B L u N := fun N a b => ⟨hL, by rw [a.1]; exact l2, fun k hk => by rw [b.1, (l3 k hk).1]; exact hb k hk⟩
  have cl : FX11_law t a M = bdM (FX5_readText (t + 171) 1 M) (fun r4 M3 => if ¬ r4 = 0 then gd (txok M3 ((t + 171) + 2)) <| nm (put M3 a 3 (txU M3 ((t + 171) + 2))) fun M10 => gd (inb (mI M3 (t + 1) 7) 6) <| nm (sR M10 ((t + 1) + 7) (ix (mI M3 (t + 1) 7)) (some a)) fun M12 => nm (sI M12 (t + 1) 7 ((mI M12 (t + 1) 7) + 1)) fun M15 => bdM (FX11_grant t ((mI M15 (t + 1) 7) - 1) M15) fun r18 M17 => some (r18, [(9, 0), (23, 0), (23, 0)], M17) else bdM (FX11_refuse t (-6) M3) fun r20 M19 => some (r20, [], M19)) := by
    unfold FX11_law
    rw [c2, if_pos (show Int32.ofNat n0 < 6 from (nn_lt (b := 6) (by omega) (by omega)).mpr h0)]
  rcases hcs with ⟨q1, N, p, lv, n, K, I, g, g1, s, hg, hk, hM3⟩ | ⟨q1, f, q2, q3⟩
  rotate_left
  · have q1 : r4 = 0 := q1
    have q2 : mI M3 (t + 171) 3 = Int32.ofNat f := q2
    have eR : ∀ q, q ≠ t → q ≠ t + 275 → Ea M3 (RfM t 4 M3) q := fun q a b => by unfold RfM; (repeat (first | exact Ea.rf _ _ | refine Ea.tr ?_ (Ea_sI (by omega)) | refine Ea.tr ?_ (Ea_sJ (by omega))))
    have eu0 : Ea M (RfM t 4 M3) u := (X1 u (by omega) (by omega) (by omega) (by omega)).tr (eR u (by omega) (by omega))
    obtain ⟨R, y1, y2, y3, y4, y5, y6⟩ := lawR_bad (n0 := n0) (tp _ eu0 ((X1 (u + 9) (by omega) (by omega) (by omega) (by omega)).tr (eR _ (by omega) (by omega)))) (K0.keepE ((X1 (u + 15) (by omega) (by omega) (by omega) (by omega)).tr (eR _ (by omega) (by omega))).2.1 ((X1 (u + 16) (by omega) (by omega) (by omega) (by omega)).tr (eR _ (by omega) (by omega))).2.1 ((X1 (u + 17) (by omega) (by omega) (by omega) (by omega)).tr (eR _ (by omega) (by omega))).2.1 ((X1 (u + 39) (by omega) (by omega) (by omega) (by omega)).tr (eR _ (by omega) (by omega))).2.1) (by rw [((X1 (u + 2) (by omega) (by omega) (by omega) (by omega)).tr (eR _ (by omega) (by omega))).1]; exact c3) h0 q3
    obtain ⟨W, w1, w2⟩ := h.refX (j := 4) (C := M3) (R := R) (by decide) (fun q hq => X1 q (by unfold UsedN at hq; omega) (by unfold UsedN at hq; omega) (by unfold UsedN at hq; omega) (by unfold UsedN at hq; omega)) (by rw [XN]) (by rw [XN]) x2 (fun q a b _ => y2 q a b) y5 (by rw [q2, y6]) (fun k hk => by
      by_cases z : k = 20
      · rw [z, y4, k20]
      · rw [y3 k (by simp only [List.mem_cons, List.not_mem_nil, or_false] at hk ⊢; omega), eu0.1])
    refine ⟨-6, [], RfM t 4 M3, W, ?_, ?_, Λ, w2⟩
    · rw [cl, bo e1, q1, if_neg (by decide), bo (refuse_eq (j := 4) (c := -6) (by decide) rfl)]; rfl
    · rw [y1]; exact w1
  · have q1 : r4 = 1 := q1
    have hM3 : M3 = sI (sI N (t + 171) 3 (-1)) (t + 171) 2 0 := hM3
    generalize hΛ' : (fun x => if x = a then (n, I) else Λ x : Lam) = Λ'
    have lam0 : ∀ x, x + 3 ≤ T → Λ' x = Λ x := fun x hx => by rw [← hΛ']; show (if x = a then (n, I) else Λ x) = Λ x; rw [if_neg (by omega)]
    have lama : Λ' a = (n, I) := by rw [← hΛ']; show (if a = a then (n, I) else Λ a) = _; rw [if_pos rfl]
    have h' := h.lam lam0
    obtain ⟨p1, p2⟩ := put_txt (Λ := Λ') (a := a) g s hM3 lama
    generalize hM10 : put M3 a 3 (txU M3 (t + 171 + 2)) = M10 at p2
    have E10 : ∀ q, q < a → Ea M3 M10 q := fun q hq => by rw [← hM10]; exact put_out (Or.inl hq)
    have m7 : mI M3 (t + 1) 7 = Int32.ofNat n0 := by rw [(X1 (t + 1) (by omega) (by omega) (by omega) (by omega)).1]; exact c2
    generalize hM1 : sI (sI (sR M10 (t + 1 + 7) n0 (some a)) (t + 1) 7 (Int32.ofNat (n0 + 1))) t 16 0 = M1
    have E1 : ∀ q, q ≠ t → q ≠ t + 1 → q ≠ t + 1 + 7 → Ea M10 M1 q := fun q a b c => by
      rw [← hM1]
      exact ((Ea_sR c).tr (Ea_sI b)).tr (Ea_sI a)
    have EM : ∀ q, q ≠ t → q ≠ t + 1 → q ≠ t + 1 + 7 → q ≠ t + 171 → q ≠ t + 173 → q ≠ t + 174 → q ≠ t + 175 → q < a → Ea M M1 q := fun q a b c d e f g i => ((X1 q d e f g).tr (E10 q i)).tr (E1 q a b c)
    have EU : ∀ q, u ≤ q → q < a → Ea M M1 q := fun q x y => EM q (by omega) (by omega) (by omega) (by omega) (by omega) (by omega) (by omega) y
    obtain ⟨Nr, len, W, d, y1, y2, y3, y4, y5⟩ := lawR_ok (n0 := n0) (tp M1 (EU u (by omega) (by omega)) (EU (u + 9) (by omega) (by omega))) (K0.keepE (EU (u + 15) (by omega) (by omega)).2.1 (EU (u + 16) (by omega) (by omega)).2.1 (EU (u + 17) (by omega) (by omega)).2.1 (EU (u + 39) (by omega) (by omega)).2.1) (by rw [(EU (u + 2) (by omega) (by omega)).1]; exact c3) h0 s hg hk
    obtain ⟨z1, z2, z3, z4, z5, z6, z7, z8, z9, z10⟩ := y2
    have EW : ∀ q, q ≠ u → q ≠ u + 2 → (q < u + 10 ∨ u + 15 ≤ q) → Ea M1 W q := fun q a b c => (d.1 q a c).tr (z1 q (by omega))
    refine ⟨Int32.ofNat n0, [(9, 0), (23, 0), (23, 0)], M1, W, ?_, y1, Λ', ?_⟩
    · have e10 : mI (sR M10 (t + 1 + 7) n0 (some a)) (t + 1) 7 = Int32.ofNat n0 := by
        rw [mI_sR, (E10 (t + 1) (by omega)).1]; exact m7
      rw [cl, bo e1, q1, if_pos (by decide), gp p1, nmb, m7, gp (inb_nn h0 (by decide)), nmb, nmb, nn_ix (by omega), hM10, e10, show Int32.ofNat n0 + 1 = Int32.ofNat (n0 + 1) from nn_add n0 1, mI_e, show Int32.ofNat (n0 + 1) - 1 = Int32.ofNat n0 from nn_sub (b := 1) (by omega) (by omega), bo (grant_eq _ _ _), hM1]
    · show InvL Λ' t u (a + 3) W
      have MW : ∀ q, q ≠ t → q ≠ t + 1 → q ≠ t + 1 + 7 → q ≠ t + 171 → q ≠ t + 173 → q ≠ t + 174 → q ≠ t + 175 → q < a → q ≠ u → q ≠ u + 2 → (q < u + 10 ∨ u + 15 ≤ q) → Ea M W q := fun q a b c d e f g i j k l => (EM q a b c d e f g i).tr (EW q j k l)
      have rr : ∀ k, k ≠ 1 → (k < 194 + 900 * n0 ∨ 194 + 900 * n0 + 900 ≤ k) → mI W (u + 2) k = mI M (u + 2) k := fun k x y => by
        rw [z10 k x y, (d.1 (u + 2) (by omega) (by omega)).1, (EU (u + 2) (by omega) (by omega)).1]
      have uu : ∀ k, k ∈ ([8, 11, 20, 64, 67] : List Nat) → mI W u k = mI M u k := fun k hk => by
        by_cases z : k = 20
        · rw [z, z3, k20]
        · simp only [List.mem_cons, List.not_mem_nil, or_false] at hk
          rw [z2 k (by omega) (by omega) (by omega), d.2 k (by simp only [List.mem_cons, List.not_mem_nil, or_false]; omega), (EU u (by omega) (by omega)).1]
      have n1 : ∀ q, t + 171 ≤ q → q < t + 176 → Ea M3 W q := fun q x y => ((E10 q (by omega)).tr (E1 q (by omega) (by omega) (by omega))).tr (EW q (by omega) (by omega) (by omega))
      have tt : ∀ k, mI W t k = if k = 16 then 0 else mI M t k := fun k => by
        rw [(EW t (by omega) (by omega) (by omega)).1, ← hM1]
        by_cases z : k = 16
        · rw [if_pos z, z, mI_e]
        · rw [if_neg z, mI_n2 z, mI_n1 (by omega), mI_sR, (E10 t (by omega)).1, (X1 t (by omega) (by omega) (by omega) (by omega)).1]
      have t1 : ∀ k, mI W (t + 1) k = if k = 7 then Int32.ofNat (n0 + 1) else mI M (t + 1) k := fun k => by
        rw [(EW (t + 1) (by omega) (by omega) (by omega)).1, ← hM1, mI_n1 (by omega)]
        by_cases z : k = 7
        · rw [if_pos z, z, mI_e]
        · rw [if_neg z, mI_n2 z, mI_sR, (E10 (t + 1) (by omega)).1, (X1 (t + 1) (by omega) (by omega) (by omega) (by omega)).1]
      have j1 : mJ W (t + 1) = mJ M (t + 1) := by
        rw [(EW (t + 1) (by omega) (by omega) (by omega)).2.1, ← hM1]
        show mJ M10 (t + 1) = _
        rw [(E10 (t + 1) (by omega)).2.1, (X1 (t + 1) (by omega) (by omega) (by omega) (by omega)).2.1]
      have R8 : ∀ i, mR W (t + 1 + 7) i = if i = n0 then some a else mR M (t + 1 + 7) i := fun i => by
        rw [(EW (t + 1 + 7) (by omega) (by omega) (by omega)).2.2.1, ← hM1, mR_sI, mR_sI, mR_sR]
        by_cases z : i = n0
        · rw [if_pos ⟨rfl, z⟩, if_pos z]
        · rw [if_neg (fun y => z y.2), if_neg z, (E10 (t + 1 + 7) (by omega)).2.2.1, (X1 (t + 1 + 7) (by omega) (by omega) (by omega) (by omega)).2.2.1]
      have eT : ∀ q, u + 42 ≤ q → q < T → Ea M W q := fun q x y => MW q (by omega) (by omega) (by omega) (by omega) (by omega) (by omega) (by omega) (by omega) (by omega) (by omega) (by omega)
      have lo : ∀ q, t + 2 ≤ q → q < t + 11 → q ≠ t + 1 + 7 → Ea M W q := fun q x y z => MW q (by omega) (by omega) z (by omega) (by omega) (by omega) (by omega) (by omega) (by omega) (by omega) (by omega)
      have aW : ∀ q, a ≤ q → q < a + 3 → Ea M10 W q := fun q x y => (E1 q (by omega) (by omega) (by omega)).tr (EW q (by omega) (by omega) (by omega))
      have hS : SR Λ' W (u + 42) (a + 3) (t + 1) (mI W (u + 2)) := by
        obtain ⟨s1', s2, ⟨s3, s4, s5⟩, ⟨m, b1, b2, b3, b4⟩, -, o1, o2, o3, o4, o5, o6⟩ := h.2.2.1
        have e13 : ∀ c, c < 52 → mI W (u + 2) (130 + c) = mI M (u + 2) (130 + c) := fun c hc => rr _ (by omega) (by omega)
        refine ⟨(s1'.keep (lo _ (by omega) (by omega) (by omega)) (lo _ (by omega) (by omega) (by omega)) (lo _ (by omega) (by omega) (by omega)) (lo _ (by omega) (by omega) (by omega))).row (fun k x y => rr k (by omega) (by omega)), s2.row (fun k x y => rr k (by omega) (by omega)), ⟨?_, fun c hc => by rw [e13 c hc]; exact s4 c hc, ?_⟩, ⟨m, b1, by rw [t1, if_neg (by decide)]; exact b2, by rw [rr 0 (by omega) (by omega)]; exact b3, fun k hk => ?_⟩, ⟨n0 + 1, by omega, by rw [t1, if_pos rfl], z6, by rw [t1, if_neg (by decide), rr 2 (by omega) (by omega)]; exact c4, ?_, fun i hi => ?_⟩, ?_⟩
        · rw [j1]; exact s3.congr (fun c hc => by rw [e13 c hc])
        · have : cs (fun c => decide (mI W (u + 2) (130 + c) = 1)) = cs (fun c => decide (mI M (u + 2) (130 + c) = 1)) := by
            unfold cs
            exact List.filter_congr (fun c hc => by rw [e13 c (List.mem_range.mp hc)])
          rw [this]; exact s5
        · rw [rr _ (by omega) (by omega), rr _ (by omega) (by omega), (lo (t + 1 + 5) (by omega) (by omega) (by omega)).1, (lo (t + 1 + 6) (by omega) (by omega) (by omega)).1]; exact b4 k hk
        · rw [rr 2 (by omega) (by omega)]
          rcases c5 with z | ⟨k, z, y⟩
          · exact Or.inl z
          · exact Or.inr ⟨k, by omega, y⟩
        · by_cases z : i = n0
          · subst z
            refine ⟨a, by rw [R8, if_pos rfl], by omega, by omega, p2.keep (aW _ (by omega) (by omega)) (aW _ (by omega) (by omega)) (aW _ (by omega) (by omega)), len, ?_⟩
            rw [lama]
            refine ⟨s.2.1, y3, by omega, z7, y4.cg (fun k hk => z9 k hk) (fun k hk => z8 k hk) (Nat.le_refl _), fun i hi => s.2.2 i hi⟩
          · obtain ⟨x, x1, x2, x3, x4, ln, x5⟩ := c6 i (by omega)
            refine ⟨x, by rw [R8, if_neg z]; exact x1, x2, by omega, (x4.lam (lam0 x x3)).keep (eT _ (by omega) (by omega)) (eT _ (by omega) (by omega)) (eT _ (by omega) (by omega)), ln, ?_⟩
            rw [lam0 x x3]
            exact x5.row (fun k p q => rr k (by omega) (by omega))
        · unfold SRt
          rw [(lo (t + 1 + 8) (by omega) (by omega) (by omega)).1, rr 5 (by omega) (by omega), rr 6 (by omega) (by omega), rr 7 (by omega) (by omega)]
          exact ⟨o1, o2, o3, o4, o5, o6⟩
      refine h'.txt (by omega) hS (fun q hq => by unfold UsedN at hq; exact MW q (by omega) (by omega) (by omega) (by omega) (by omega) (by omega) (by omega) (by omega) (by omega) (by omega) (by omega)) (by rw [(n1 (t + 174) (by omega) (by omega)).2.2.2, XN]) (by rw [(n1 (t + 175) (by omega) (by omega)).2.2.2, XN]) ⟨0, by omega, by rw [(n1 (t + 171) (by omega) (by omega)).1]; exact x2, z4, fun k hk => absurd hk (by omega)⟩ (by rw [tt, if_pos rfl, z5]) (fun k hk => by rw [tt, if_neg (by omega)]) ?_ uu (fun i hi => ?_)
      · rw [(n1 (t + 171) (by omega) (by omega)).1, z2 18 (by decide) (by decide) (by decide), y5, hM3]; simp (disch := omega) only [mI_n1, mI_n2, mI_e, mJ_n1, mJ_n2, mJ_e, mI_sJ, mI_sR, mJ_sI, mJ_sR, mR_sI, mR_sJ]
      · rw [(MW (t + 275) (by omega) (by omega) (by omega) (by omega) (by omega) (by omega) (by omega) (by omega) (by omega) (by omega) (by omega)).1, (MW (u + 1) (by omega) (by omega) (by omega) (by omega) (by omega) (by omega) (by omega) (by omega) (by omega) (by omega) (by omega)).1]
        exact h.2.2.2.2.2.2.1.2.2.2.2.1 i hi
