/-! ===== the law in force; card ===== -/
theorem InvL.worth {Λ : Lam} {t u T w : Nat} {M N : Mem} (h : InvL Λ t u T M) (hw : w = t + 179 ∨ w = t + 191) (e : FtE w M N) (hR : WR Λ N (u + 42) T w) : InvL Λ t u T N := by
  have hu := h.1
  have hT := h.2.1
  have E0 : ∀ q, (q < w ∨ w + 12 ≤ q) → Ea M N q := fun q hq => e q (by omega)
  have eT : ∀ q, u + 42 ≤ q → q < T → Ea M N q := fun q a b => E0 q (by omega)
  obtain ⟨h1, h2, h3, h4, h5, h6, h7, h8, h9, h10⟩ := h
  have ht := (E0 t (by omega)).1
  have hu0 := (E0 u (by omega)).1
  refine ⟨h1, h2, ?_, ?_, ?_, ?_, ?_, ?_, ?_, ?_⟩
  · rw [(E0 (u + 2) (by omega)).1]
    exact h3.keep (fun q a b => E0 q (by omega)) eT (Nat.le_refl _)
  · exact h4.keep (fun q a b => E0 q (by omega)) (E0 _ (by omega)).1 (E0 _ (by omega)).1 eT (Nat.le_refl _)
  · exact h5.keep (fun q a b => E0 q (by omega)) (E0 _ (by omega)).1 (E0 _ (by omega)).1 (by rw [hu0])
  · exact h6.keepE (by rw [(E0 (t + 171) (by omega)).1]) (E0 _ (by omega)).1 (by rw [hu0]) (E0 _ (by omega)).1
  · refine h7.upd (by rw [ht, hu0]; exact h7.1) (by rw [ht]) (by rw [ht]) (by rw [(E0 (t + 171) (by omega)).1]) (by rw [hu0]) (by rw [hu0]) (by rw [hu0]) (by rw [hu0]) (fun j hj => ?_) (E0 _ (by omega)).1 (E0 _ (by omega)).1
    rw [(E0 (t + 275) (by omega)).1, (E0 (u + 1) (by omega)).1]; exact h7.2.2.2.2.1 j hj
  · rcases hw with rfl | rfl
    · exact hR
    · exact h8.keep (fun q a b => E0 q (by omega)) eT (Nat.le_refl _)
  · rcases hw with rfl | rfl
    · exact h9.keep (fun q a b => E0 q (by omega)) eT (Nat.le_refl _)
    · exact hR
  · obtain ⟨k1, k2, k3, k4⟩ := h10
    exact ⟨k1.keepE (E0 _ (by omega)).2.1 (E0 _ (by omega)).2.1 (E0 _ (by omega)).2.1 (E0 _ (by omega)).2.1, by rw [(E0 (t + 174) (by omega)).2.2.2]; exact k2, by rw [(E0 (t + 175) (by omega)).2.2.2]; exact k3, by rw [hu0]; exact k4⟩
theorem InvL.tl {Λ : Lam} {t u T : Nat} {M N : Mem} (h : InvL Λ t u T M) (e : TlE u M N) : InvL Λ t u T N := by
  have hu := h.1
  have hT := h.2.1
  obtain ⟨e1, e2, -⟩ := e
  refine h.same (fun q hq => by unfold Used at hq; exact e1 q (by omega)) (fun k _ => by rw [(e1 t (by omega)).1]) (fun k _ => by rw [(e1 (t + 171) (by omega)).1]) (fun k hk => e2 k (fun z => by rw [z] at hk; exact absurd hk (by decide)) (fun z => by rw [z] at hk; exact absurd hk (by decide))) (Nat.le_refl _)
theorem SRl.law {Λ : Lam} {M : Mem} {lo T b n : Nat} {r : Nat → Int32} {f : Int32} (hn : n ≤ 6) (h7 : mI M b 7 = Int32.ofNat n) (hl : ∀ i, i < n → ∃ a, mR M (b + 7) i = some a ∧ lo ≤ a ∧ a + 3 ≤ T ∧ TxV Λ M a ∧ ∃ len, RLw r (194 + 900 * i) (Λ a).1 len (Λ a).2) (hf : f = -1 ∨ ∃ k, k < n ∧ f = Int32.ofNat k) : ∃ x, FX6_lawAt b f M = some x ∧ LV Λ M lo T x ∧ LwI r f (LOf Λ x).1 (LOf Λ x).2 := by
  rcases hf with rfl | ⟨k, hk, rfl⟩
  · exact ⟨none, rfl, fun a ha => absurd ha (by simp), Or.inl ⟨rfl, rfl⟩⟩
  · obtain ⟨a, a1, a2, a3, a4, len, a5⟩ := hl k hk
    refine ⟨some a, ?_, fun a' e => ?_, Or.inr ⟨k, len, by omega, rfl, a5⟩⟩
    · unfold FX6_lawAt jn1 jn0
      show (if Int32.ofNat k < 0 then some none else if mI M b 7 ≤ Int32.ofNat k then some none else if 6 ≤ Int32.ofNat k then some none else gd (inb (Int32.ofNat k) 6) (some (mR M (b + 7) (ix (Int32.ofNat k))))) = _
      rw [if_neg (fun z => by rw [i_lt0, nn_int (by omega)] at z; omega), h7, if_neg (nle hk (by omega)), if_neg (show ¬ (6 : Int32) ≤ Int32.ofNat k from nle (n := 6) (by omega) (by decide)), gp (inb_nn (by omega) (by decide)), nn_ix (by omega), a1]
    · have : a = a' := Option.some.inj e
      subst this; exact ⟨a2, a3, a4⟩
theorem InvL.law {Λ : Lam} {t u T : Nat} {M : Mem} {f : Int32} (h : InvL Λ t u T M) (hf : f = -1 ∨ ∃ k n, k < n ∧ mI M (u + 2) 1 = Int32.ofNat n ∧ n ≤ 6 ∧ f = Int32.ofNat k) : ∃ x, FX6_lawAt (t + 1) f M = some x ∧ LV Λ M (u + 42) T x ∧ LwI (mI M (u + 2)) f (LOf Λ x).1 (LOf Λ x).2 := by
  obtain ⟨n, c1, c2, c3, c4, c5, c6⟩ := h.2.2.1.2.2.2.2.1
  refine SRl.law c1 c2 c6 ?_
  rcases hf with z | ⟨k, n', k1, k2, k3, k4⟩
  · exact Or.inl z
  · rw [k2] at c3
    have : n' = n := (nn_eq (by omega) (by omega)).mp c3
    exact Or.inr ⟨k, by omega, k4⟩
theorem InvL.fit {Λ : Lam} {t u T : Nat} {M : Mem} (h : InvL Λ t u T M) : ∃ n I N, FX10_fit (t + 179) (t + 1) (mI M (t + 1) 8) (t + 1 + 1) M = some N ∧ FtE (t + 179) M N ∧ InvL Λ t u T N ∧ mI N (t + 179) 4 = mI M (u + 2) 7 ∧ WTab N (t + 179) I n (mI M (u + 2) 8) (mI M (u + 2) 6) ∧ LwI (mI M (u + 2)) (mI M (u + 2) 2) n I := by
  have hu := h.1
  obtain ⟨n, c1, c2, c3, c4, c5, c6⟩ := h.2.2.1.2.2.2.2.1
  obtain ⟨x, x1, x2, x3⟩ := SRl.law c1 c2 c6 c5
  rw [← c4] at x1
  obtain ⟨N, n1, n2, n3, n4, n5⟩ := fit_c (w := t + 179) (b := t + 1) (p := t + 1 + 1) (by omega) (by omega) (by omega) h.2.2.2.2.2.2.2.1 x1 x2
  refine ⟨_, _, N, n1, n2, h.worth (Or.inl rfl) n2 n3, ?_, ?_, x3⟩
  · rw [n4]; exact h.2.2.1.2.2.2.2.2.2.2.1
  · have e1 : mI M (t + 1 + 1) 12 = mI M (u + 2) 8 := h.2.2.1.1.2.2.2.2.2.2.2.2.2.2.2.1
    have e2 : mI M (t + 1 + 8) 1 = mI M (u + 2) 6 := h.2.2.1.2.2.2.2.2.2.1
    rw [e1, e2] at n5
    exact n5
theorem placeOf_c {M : Mem} {b c : Nat} {r : Nat → Int32} (h : TR M b r) (hV : TV r) (hc : c < 52) : FX8_placeOf b (Int32.ofNat c) M = some (r (18 + c)) := by
  obtain ⟨h1, h2, h3, -, -, -, h7, -⟩ := h
  unfold FX8_placeOf jn1
  rw [ob (h1.has hc)]
  have hs := hV.2.2.2.2.2.2.2.2.2.2.2.1 c hc
  rcases hV.2.2.2.2.2.2.2.2.2.2.1 c hc with z | z | z | z | z
  · rw [z, if_pos (by decide), ob (h2.has hc), z, if_pos (by decide), ob (h3.has hc), z, if_pos (by decide), h7]
    show (if ¬ Int32.ofNat c = r 11 then some (-1) else some 3) = _
    rw [if_pos (show ¬ Int32.ofNat c = r 11 from fun y => by have := hs.mpr y.symm; rw [z] at this; exact absurd this (by decide))]
  · rw [z, if_neg (by decide)]
  · rw [z, if_pos (by decide), ob (h2.has hc), z, if_neg (by decide)]
  · rw [z, if_pos (by decide), ob (h2.has hc), z, if_pos (by decide), ob (h3.has hc), z, if_neg (by decide)]
  · rw [z, if_pos (by decide), ob (h2.has hc), z, if_pos (by decide), ob (h3.has hc), z, if_pos (by decide), h7]
    show (if ¬ Int32.ofNat c = r 11 then some (-1) else some 3) = _
    rw [if_neg (show ¬ ¬ Int32.ofNat c = r 11 from fun y => y (hs.mp z).symm)]
theorem valueOf_c {w c : Nat} {M : Mem} (hc : c < 52) : FX10_valueOf w (Int32.ofNat c) M = some (mI M (w + 4) c) := by
  unfold FX10_valueOf
  rw [ob (isCard_nn hc)]
  show (if (1 : Int32) = 0 then some 1 else gd (inb (Int32.ofNat c) 52) (some (mI M (w + 4) (ix (Int32.ofNat c))))) = _
  rw [if_neg (by decide), gp (inb_nn hc (by decide)), nn_ix (by omega)]
theorem st_card : St_card Inv := by
  rintro t u T M p1 p2 ⟨Λ, h⟩
  have hu := h.1
  rcases card_cases p1 with ⟨c, hc, rfl⟩ | hno
  rotate_left
  · refine ⟨-1, M, sI M u 0 0, ?_, ?_, Λ, h.u0 0⟩
    · unfold FX11_card; rw [isCard_eq, if_neg hno]; rfl
    · unfold FX12_card; rw [nmb, isCardM, if_neg hno]; rfl
  have k1 := isCard_nn hc
  have k2 : FX12_isCard (Int32.ofNat c) = some 1 := by rw [isCardM, nn_int (by omega), if_pos (by omega)]
  have x1 : mI (sI M u 0 0) (u + 2) = mI M (u + 2) := by funext k; simp (disch := omega) only [mI_n1, mI_n2, mI_e, mJ_n1, mJ_n2, mJ_e, mI_sJ, mI_sR, mJ_sI, mJ_sR, mR_sI, mR_sJ]
  by_cases hp : 0 ≤ p2.toInt ∧ p2.toInt < 5
  rotate_left
  · refine ⟨-1, M, sI M u 0 0, ?_, ?_, Λ, h.u0 0⟩
    · unfold FX11_card; rw [ob k1, if_pos (by decide), sw_no (by simp only [List.length_cons, List.length_nil]; omega)]
    · unfold FX12_card; rw [nmb, ob k2, if_pos (by decide), sw_no (by simp only [List.length_cons, List.length_nil]; omega)]
  obtain ⟨m, hm, rfl⟩ := nn_exi (i := p2) hp.1
  rw [nn_int hm] at hp
  have hm5 : m < 5 := by omega
  obtain ⟨n, I, N, n1, n2, n3, n4, n5, n6⟩ := h.fit
  have r2 : mI (sI N u 0 0) (u + 2) = mI M (u + 2) := by rw [(Ea_sI (M := N) (a := u) (b := u + 2) (k := 0) (v := 0) (by omega)).1, (n2 (u + 2) (by omega)).1]
  have r20 : mI (sI N u 0 0) u 20 = 0 := by rw [mI_n2 (by decide)]; exact n3.2.2.2.2.2.2.2.2.2.2.2.2
  have n6' : LwI (mI (sI N u 0 0) (u + 2)) (mI (sI N u 0 0) (u + 2) 2) n I := by rw [r2]; exact n6
  clear hp hm
  match m, hm5 with
  | 0, _ =>
    obtain ⟨⟨v, M2⟩, f1, f2, f3⟩ := valueOf_r (c := c) n6' r20 hc
    have f2 : TlE u (sI N u 0 0) M2 := f2
    have f3 : v = _ := f3
    rw [r2] at f3
    refine ⟨v, N, M2, ?_, ?_, Λ, (n3.u0 0).tl f2⟩
    · unfold FX11_card
      rw [ob k1, if_pos (by decide)]
      show (FX10_fit (t + 179) (t + 1) (mI M (t + 1) 8) (t + 1 + 1) M).bind (fun M7 => (FX10_valueOf (t + 179) (Int32.ofNat c) M7).bind fun r9 => some (r9, M7)) = _
      rw [ob n1, ob (valueOf_c hc), n5.1 c hc, f3]
    · unfold FX12_card
      rw [nmb, ob k2, if_pos (by decide)]
      show bdM (FX12_valueOf u (Int32.ofNat c) (sI N u 0 0)) (fun r4 M3 => some (r4, M3)) = _
      rw [bo f1]
  | 1, _ =>
    obtain ⟨⟨v, M2⟩, f1, f2, f3⟩ := isBarred_r (c := c) n6' r20 hc
    have f2 : TlE u (sI N u 0 0) M2 := f2
    have f3 : v = _ := f3
    rw [r2] at f3
    refine ⟨v, N, M2, ?_, ?_, Λ, (n3.u0 0).tl f2⟩
    · unfold FX11_card
      rw [ob k1, if_pos (by decide)]
      show (FX10_fit (t + 179) (t + 1) (mI M (t + 1) 8) (t + 1 + 1) M).bind (fun M15 => (FX11_has (mJ M15 (t + 179) 3) (Int32.ofNat c)).bind fun r17 => if r17 = 0 then some (0, M15) else some (1, M15)) = _
      rw [ob n1, ob (n5.2.1.has hc), f3]
      by_cases b : bOf I n (mI M (u + 2) 8) (mI M (u + 2) 6) c = true
      · rw [if_pos b, if_neg (by decide)]
      · rw [if_neg b, if_pos rfl]
    · unfold FX12_card
      rw [nmb, ob k2, if_pos (by decide)]
      show bdM (FX12_isBarred u (Int32.ofNat c) (sI N u 0 0)) (fun r6 M5 => if r6 = 0 then some (0, M5) else some (1, M5)) = _
      rw [bo f1, f3]
      by_cases b : bOf I n (mI M (u + 2) 8) (mI M (u + 2) 6) c = true
      · rw [if_pos b, if_neg (by decide)]
      · rw [if_neg b, if_pos rfl]
  | 2, _ =>
    refine ⟨mI M (u + 2) (18 + c), M, sI M u 0 0, ?_, ?_, Λ, h.u0 0⟩
    · unfold FX11_card
      rw [ob k1, if_pos (by decide)]
      show (FX8_placeOf (t + 1 + 1) (Int32.ofNat c) M).bind (fun r => some (r, M)) = _
      rw [ob (placeOf_c h.2.2.1.1 h.2.2.1.2.1 hc)]
    · unfold FX12_card
      rw [nmb, ob k2, if_pos (by decide)]
      show gd (inb (18 + Int32.ofNat c) 5594) (some (mI (sI M u 0 0) (u + 2) (ix (18 + Int32.ofNat c)), sI M u 0 0)) = _
      rw [show (18 : Int32) + Int32.ofNat c = Int32.ofNat (18 + c) from nn_add 18 c, gp (inb_nn (by omega) (by decide)), nn_ix (by omega), x1]
  | 3, _ =>
    refine ⟨mI M (u + 2) (70 + c), M, sI M u 0 0, ?_, ?_, Λ, h.u0 0⟩
    · unfold FX11_card
      rw [ob k1, if_pos (by decide)]
      show (FX11_has (mJ M (t + 1 + 1) 4) (Int32.ofNat c)).bind (fun r => if r = 0 then some (0, M) else some (1, M)) = _
      rw [ob (h.2.2.1.1.2.2.2.1.has hc)]
      rcases h.2.2.1.2.1.2.2.2.2.2.2.2.2.2.2.2.2.1 c hc with z | z
      · rw [z, if_pos (by decide)]
      · rw [z, if_neg (by decide)]
    · unfold FX12_card
      rw [nmb, ob k2, if_pos (by decide)]
      show gd (inb (70 + Int32.ofNat c) 5594) (some (mI (sI M u 0 0) (u + 2) (ix (70 + Int32.ofNat c)), sI M u 0 0)) = _
      rw [show (70 : Int32) + Int32.ofNat c = Int32.ofNat (70 + c) from nn_add 70 c, gp (inb_nn (by omega) (by decide)), nn_ix (by omega), x1]
  | 4, _ =>
    refine ⟨mI M (u + 2) (130 + c), M, sI M u 0 0, ?_, ?_, Λ, h.u0 0⟩
    · unfold FX11_card
      rw [ob k1, if_pos (by decide)]
      show (FX11_has (mJ M (t + 1) 5) (Int32.ofNat c)).bind (fun r => if r = 0 then some (0, M) else some (1, M)) = _
      rw [ob (h.2.2.1.2.2.1.1.has hc)]
      rcases h.2.2.1.2.2.1.2.1 c hc with z | z
      · rw [z, if_pos (by decide)]
      · rw [z, if_neg (by decide)]
    · unfold FX12_card
      rw [nmb, ob k2, if_pos (by decide)]
      show gd (inb (130 + Int32.ofNat c) 5594) (some (mI (sI M u 0 0) (u + 2) (ix (130 + Int32.ofNat c)), sI M u 0 0)) = _
      rw [show (130 : Int32) + Int32.ofNat c = Int32.ofNat (130 + c) from nn_add 130 c, gp (inb_nn (by omega) (by decide)), nn_ix (by omega), x1]
  | k + 5, hk => exact absurd hk (by omega)
