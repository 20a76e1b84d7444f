/-! ===== orders: the call ===== -/
/-- what reading orders changes in the reference -/
def RdO (u : Nat) (M N : Mem) : Prop := (∀ q, q ≠ u → (q < u + 10 ∨ u + 15 ≤ q) → q ≠ u + 40 → Ea M N q) ∧ (∀ k, k ∉ ([0, 13, 14, 15, 16, 18, 19, 20, 21, 23, 26, 29, 30, 64] : List Nat) → mI N u k = mI M u k) ∧ mI N u 64 = -1
theorem ordR {B : Nat → Nat} {L u : Nat} {M : Mem} (T : TpR B L u M) (K : KW u M) : ∃ N0, FX12_orders u M = (ordX u N0).bind (ordE u) ∧ RdO u M N0 ∧ RE B L u 1 N0 0 0 [] ∧ mI N0 u 21 = 0 ∧ mI N0 u 18 = -1 := by
  obtain ⟨t1, t2, t3⟩ := T
  generalize hM1 : sI (sI M u 0 0) u 64 (-1) = M1
  have e1 : Eo (fun q => q = u) M M1 := by rw [← hM1]; exact (Eo_sI (P := fun q => q = u) rfl).tr (Eo_sI rfl)
  have u1 : ∀ k, k ≠ 0 → k ≠ 64 → mI M1 u k = mI M u k := fun k a b => by rw [← hM1, mI_n2 b, mI_n2 a]
  have T' : TpR B L u M1 := ⟨t1, by rw [u1 13 (by decide) (by decide)]; exact t2, fun k hk => by rw [(e1 (u + 9) (by omega)).1]; exact t3 k hk⟩
  have K' : KW u M1 := K.keepE (e1 _ (by omega)).2.1 (e1 _ (by omega)).2.1 (e1 _ (by omega)).2.1 (e1 _ (by omega)).2.1
  obtain ⟨N0, e, ⟨b1, b2⟩, r1, r2, r3⟩ := begin_r (o := 1) (Or.inr rfl) T' K'
  have e : FX12_beginText u 1 M1 = some N0 := e
  refine ⟨N0, ?_, ⟨fun q a b _ => (e1 q a).tr (b1 q a), fun k hk => ?_, ?_⟩, r1, r2, r3⟩
  · rw [orders_r, nmb, nmb, hM1, ob e, ordX_eq]
  · rw [b2 k (fun z => hk (by simp only [List.mem_cons, List.not_mem_nil, or_false] at z ⊢; omega)), u1 k (fun z => hk (by rw [z]; decide)) (fun z => hk (by rw [z]; decide))]
  · rw [b2 64 (by decide), ← hM1, mI_e]
theorem RdO.ml {u : Nat} {M N K : Mem} (a : RdO u M N) (b : ML u 40 N K) : RdO u M K := ⟨fun q h1 h2 h3 => (a.1 q h1 h2 h3).tr (b.1 q h1 (by omega) (by omega) (by omega) (by omega) h3), fun k hk => by rw [b.2.1 k (fun z => hk (by simp only [List.mem_cons, List.not_mem_nil, or_false] at z ⊢; omega)), a.2.1 k hk], by rw [b.2.1 64 (by decide), a.2.2]⟩
theorem RdO.fin {u : Nat} {M N : Mem} (a : RdO u M N) : RdO u M (sI (sI N u 20 0) u 13 0) := ⟨fun q h1 h2 h3 => ((a.1 q h1 h2 h3).tr (Ea_sI h1)).tr (Ea_sI h1), fun k hk => by rw [mI_n2 (fun z => hk (by rw [z]; decide)), mI_n2 (fun z => hk (by rw [z]; decide))]; exact a.2.1 k hk, by rw [mI_n2 (by decide), mI_n2 (by decide)]; exact a.2.2⟩
theorem ordR_bad {B : Nat → Nat} {L u f : Nat} {M : Mem} (T : TpR B L u M) (K : KW u M) (hf : OFail B L f ∨ ∃ p lv n I, OrdS B L p lv n I ∧ ¬ isG B L p 59 ∧ tkK B L p ≠ 0 ∧ f = tkS B L p) : ∃ R, FX12_orders u M = bdM (FX12_tell u (-6) R) (fun r N => some (r, N)) ∧ RdO u M R ∧ mI R u 20 = 0 ∧ mI R u 13 = 0 ∧ mI R u 18 = Int32.ofNat f := by
  obtain ⟨N0, e, d, r1, r2, r3⟩ := ordR T K
  have fin : ∀ N N', ordX u N0 = some N → FX12_endText u N = some (sI (sI N' u 20 0) u 13 0) → RdO u M N' → Bad u N' f → ∃ R, FX12_orders u M = bdM (FX12_tell u (-6) R) (fun r N => some (r, N)) ∧ RdO u M R ∧ mI R u 20 = 0 ∧ mI R u 13 = 0 ∧ mI R u 18 = Int32.ofNat f := fun N N' x1 x2 x3 x4 => by
    refine ⟨sI (sI N' u 20 0) u 13 0, ?_, x3.fin, by simp (disch := omega) only [mI_n1, mI_n2, mI_e, mJ_n1, mJ_n2, mJ_e, mI_sJ, mI_sR, mJ_sI, mJ_sR, mR_sI, mR_sJ], by simp (disch := omega) only [mI_n1, mI_n2, mI_e, mJ_n1, mJ_n2, mJ_e, mI_sJ, mI_sR, mJ_sI, mJ_sR, mR_sI, mR_sJ], by simp (disch := omega) only [mI_n1, mI_n2, mI_e, mJ_n1, mJ_n2, mJ_e, mI_sJ, mI_sR, mJ_sI, mJ_sR, mR_sI, mR_sJ]; exact x4.2⟩
    rw [e, ob x1]
    unfold ordE
    rw [ob x2, if_neg (show ¬ mI (sI (sI N' u 20 0) u 13 0) u 19 = 0 from by rw [mI_n2 (by decide), mI_n2 (by decide), x4.1]; decide)]
  rcases hf with hf | ⟨p, lv, n, I, s, hg, hk, rfl⟩
  · obtain ⟨N', y1, y2, y3⟩ := ord_flt hf r1 r2
    exact fin N' N' y1 (end_bad y3) (d.ml y2) y3
  · obtain ⟨N', C, y1, y2, y3, y4, y5, y6⟩ := ord_run s.1 s.2.1 hg r1 r2 (fun _ => r3)
    obtain ⟨N2, z1, z2, z3⟩ := end_mid y3 hk
    exact fin N' N2 y1 z1 ((d.ml y2).ml (z2.ml (Or.inr (by decide)))) z3
theorem ordR_ok {B : Nat → Nat} {L u p lv n : Nat} {I : Nat → CI} {M : Mem} (T : TpR B L u M) (K : KW u M) (s : OrdS B L p lv n I) (hg : ¬ isG B L p 59) (hk : tkK B L p = 0) : ∃ X lr, FX12_orders u M = refO u X ∧ RdO u M X ∧ mI X u 20 = 0 ∧ mI X u 13 = 0 ∧ mI X u 18 = -1 ∧ lr ≤ 400 ∧ TxO (mI X (u + 11)) (mI X (u + 12)) (mI X (u + 40)) lr n I ∧ mI X u 21 = Int32.ofNat n := by
  obtain ⟨N0, e, d, r1, r2, r3⟩ := ordR T K
  obtain ⟨N', C, y1, y2, y3, y4, y5, y6⟩ := ord_run s.1 s.2.1 hg r1 r2 (fun _ => r3)
  have hC : C.length ≤ 400 := by
    have := y3.2.2.2.2.2.2.2.2.1
    have := tkS_le B y3.2.1
    have := y3.1.1
    omega
  refine ⟨sI (sI N' u 20 0) u 13 0, C.length, ?_, (d.ml y2).fin, by simp (disch := omega) only [mI_n1, mI_n2, mI_e, mJ_n1, mJ_n2, mJ_e, mI_sJ, mI_sR, mJ_sI, mJ_sR, mR_sI, mR_sJ], by simp (disch := omega) only [mI_n1, mI_n2, mI_e, mJ_n1, mJ_n2, mJ_e, mI_sJ, mI_sR, mJ_sI, mJ_sR, mR_sI, mR_sJ], by simp (disch := omega) only [mI_n1, mI_n2, mI_e, mJ_n1, mJ_n2, mJ_e, mI_sJ, mI_sR, mJ_sI, mJ_sR, mR_sI, mR_sJ]; exact y6, hC, ?_, by simp (disch := omega) only [mI_n1, mI_n2, mI_e, mJ_n1, mJ_n2, mJ_e, mI_sJ, mI_sR, mJ_sI, mJ_sR, mR_sI, mR_sJ]; exact y4⟩
  · rw [e, ob y1]
    unfold ordE
    rw [ob (end_ok y3 hk), if_pos (show mI (sI (sI N' u 20 0) u 13 0) u 19 = 0 from by rw [mI_n2 (by decide), mI_n2 (by decide)]; exact y3.2.2.2.1)]
  · rw [show mI (sI (sI N' u 20 0) u 13 0) (u + 11) = mI N' (u + 11) from by funext k; simp (disch := omega) only [mI_n1, mI_n2, mI_e, mJ_n1, mJ_n2, mJ_e, mI_sJ, mI_sR, mJ_sI, mJ_sR, mR_sI, mR_sJ], show mI (sI (sI N' u 20 0) u 13 0) (u + 12) = mI N' (u + 12) from by funext k; simp (disch := omega) only [mI_n1, mI_n2, mI_e, mJ_n1, mJ_n2, mJ_e, mI_sJ, mI_sR, mJ_sI, mJ_sR, mR_sI, mR_sJ], show mI (sI (sI N' u 20 0) u 13 0) (u + 40) = mI N' (u + 40) from by funext k; simp (disch := omega) only [mI_n1, mI_n2, mI_e, mJ_n1, mJ_n2, mJ_e, mI_sJ, mI_sR, mJ_sI, mJ_sR, mR_sI, mR_sJ]]
    exact y5
/-- where orders stopped: nowhere -/
theorem InvL.stop {Λ : Lam} {t u T : Nat} {M : Mem} (h : InvL Λ t u T M) : InvL Λ t u T (sI (sI M t 18 (-1)) u 64 (-1)) := by
  have hu := h.1
  have hT := h.2.1
  generalize hN : sI (sI M t 18 (-1)) u 64 (-1) = N
  have e : ∀ q, q ≠ t → q ≠ u → Ea M N q := fun q a b => by rw [← hN]; exact (Ea_sI a).tr (Ea_sI b)
  have ut : ∀ k, k ≠ 18 → mI N t k = mI M t k := fun k a => by rw [← hN, mI_n1 (by omega), mI_n2 a]
  have uu : ∀ k, k ≠ 64 → mI N u k = mI M u k := fun k a => by rw [← hN, mI_n2 a, mI_n1 (by omega)]
  have t18 : mI N t 18 = -1 := by rw [← hN, mI_n1 (by omega), mI_e]
  have u64 : mI N u 64 = -1 := by rw [← hN, mI_e]
  obtain ⟨m1, m2, m3, m4, m5, m6⟩ := h.2.2.2.2.2.2.1
  obtain ⟨s1', s2⟩ := h.SHk (N := N) (fun q hq => e q (by omega) (by omega)) (uu 8 (by decide))
  refine h.upd s1' s2 ⟨by rw [ut 16 (by decide), uu 1 (by decide)]; exact m1, by rw [ut 17 (by decide), uu 11 (by decide)]; exact m2, by rw [t18, u64], by rw [(e (t + 171) (by omega) (by omega)).1, uu 18 (by decide)]; exact m4, fun j hj => by rw [(e (t + 275) (by omega) (by omega)).1, (e (u + 1) (by omega) (by omega)).1]; exact m5 j hj, ?_⟩ (fun q hq => e q (by unfold UsedC at hq; omega) (by unfold UsedC at hq; omega)) (by rw [(e (t + 171) (by omega) (by omega)).1]) (uu 13 (by decide)) (uu 20 (by decide))
  unfold DrR
  rw [uu 67 (by decide), (e (t + 276) (by omega) (by omega)).1, (e (u + 41) (by omega) (by omega)).1]; exact m6
theorem st_orders : St_orders Inv := by
  rintro t u T M ⟨Λ, h⟩
  have hu := h.1
  have hT := h.2.1
  obtain ⟨L, hL, l1, l2, l3⟩ := h.2.2.2.2.2.1
  obtain ⟨K0, k174, k175, k20⟩ := h.2.2.2.2.2.2.2.2.2
  generalize hB : (fun k => (mI M (t + 172) k).toInt.toNat) = B
  have hb : ∀ k, k < L → B k < 256 ∧ mI M (t + 172) k = Int32.ofNat (B k) := fun k hk => by
    obtain ⟨-, n, n1, n2⟩ := l3 k hk
    have : B k = n := by rw [← hB]; show (mI M (t + 172) k).toInt.toNat = n; rw [n2, nn_int (by omega)]; omega
    rw [this]; exact ⟨n1, n2⟩
  generalize hM1 : sI M t 18 (-1) = M1
  have e1 : Eo (fun q => q = t) M M1 := by rw [← hM1]; exact Eo_sI rfl
  obtain ⟨⟨r4, A⟩, a1, X, x2, hcs⟩ := readOrd_c (B := B) (L := L) (h := t + 171) (M := M1) ⟨hL, by rw [(e1 (t + 171) (by omega)).1]; exact l1, fun k hk => by rw [(e1 (t + 171 + 1) (by omega)).1]; exact hb k hk⟩ (by rw [(e1 (t + 171 + 3) (by omega)).2.2.2]; exact k174) (by rw [(e1 (t + 171 + 4) (by omega)).2.2.2]; exact k175)
  have X : CX (t + 171) M1 A := X
  have x2 : mI A (t + 171) 2 = 0 := x2
  have XN : mN A = mN M := by rw [show mN A = mN M1 from X.2.2.2.1, ← hM1]; rfl
  have MA : ∀ q, q ≠ t → q ≠ t + 171 → q ≠ t + 173 → q ≠ t + 174 → q ≠ t + 175 → Ea M A q := fun q z a b c d => (e1 q z).tr (X.1 q a b c d)
  have tA : ∀ k, mI A t k = mI M1 t k := fun k => by rw [(X.1 t (by omega) (by omega) (by omega) (by omega)).1]
  have tp : ∀ N : Mem, Ea M N u → Ea M N (u + 9) → TpR B L u N := fun N a b => ⟨hL, by rw [a.1]; exact l2, fun k hk => by rw [b.1, (l3 k hk).1]; exact hb k hk⟩
  have kw : ∀ N : Mem, (∀ q, u ≤ q → q < u + 42 → Ea M N q) → KW u N := fun N e => K0.keepE (e _ (by omega) (by omega)).2.1 (e _ (by omega) (by omega)).2.1 (e _ (by omega) (by omega)).2.1 (e _ (by omega) (by omega)).2.1
  have cl : FX11_orders t M = if ¬ r4 = 0 then clsO t A else bdM (FX11_refuse t (-6) A) fun r42 M41 => some (r42, M41) := by
    rw [orders_c, nmb, hM1, bo a1]
  rcases hcs with ⟨q1, N, p, lv, n, K, I, g, g1, s, hg, hk, hA⟩ | ⟨q1, f, q2, q3⟩
  rotate_left
  · have q1 : r4 = 0 := q1
    have q2 : mI A (t + 171) 3 = Int32.ofNat f := q2
    have eR : ∀ q, q ≠ t → q ≠ t + 275 → Ea A (RfM t 4 A) q := fun q a b => by unfold RfM; (repeat (first | exact Ea.rf _ _ | refine Ea.tr ?_ (Ea_sI (by omega)) | refine Ea.tr ?_ (Ea_sJ (by omega))))
    have EU : ∀ q, u ≤ q → Ea M (RfM t 4 A) q := fun q hq => (MA q (by omega) (by omega) (by omega) (by omega) (by omega)).tr (eR q (by omega) (by omega))
    obtain ⟨R, y1, y2, y3, y4, y5⟩ := ordR_bad (tp _ (EU u (by omega)) (EU (u + 9) (by omega))) (kw _ (fun q a _ => EU q a)) q3
    have hs := h.stop
    have st : ∀ q, q ≠ t → q ≠ u → Ea M (sI (sI M t 18 (-1)) u 64 (-1)) q := fun q a b => (Ea_sI a).tr (Ea_sI b)
    have rf : ∀ q, q ≠ u → Ea (RfM t 4 (sI A u 64 (-1))) (RfM t 4 A) q := fun q hq => by
      unfold RfM
      refine ⟨?_, ?_, ?_, ?_⟩
      · funext k
        rw [mI_n1 (show t + 275 ≠ u by omega), mI_sI, mI_sI, mI_sI, mI_sI, mI_n1 hq]
      · rfl
      · rfl
      · rfl
    have ec : ∀ q, (UsedN t u T q ∨ q = t ∨ (t + 1 ≤ q ∧ q < t + 10) ∨ q = t + 275 ∨ (u ≤ q ∧ q < u + 42)) → Ea (sI (sI M t 18 (-1)) u 64 (-1)) (sI A u 64 (-1)) q := fun q hq => by
      unfold UsedN at hq
      by_cases zu : q = u
      · subst zu
        have a := MA q (by omega) (by omega) (by omega) (by omega) (by omega)
        refine ⟨?_, a.2.1, a.2.2.1, a.2.2.2⟩
        funext k
        rw [mI_sI, mI_sI, mI_n1 (show q ≠ t by omega), a.1]
      · by_cases zt : q = t
        · subst zt
          have ex := X.1 q (by omega) (by omega) (by omega) (by omega)
          refine ⟨?_, ?_, ?_, ?_⟩
          · funext k
            rw [mI_n1 (by omega), mI_n1 (by omega), ex.1, hM1]
          · show mJ A q = mJ M q
            rw [ex.2.1, ← hM1]; rfl
          · show mR A q = mR M q
            rw [ex.2.2.1, ← hM1]; rfl
          · show mN A q = mN M q
            rw [XN]
        · have a := MA q zt (by omega) (by omega) (by omega) (by omega)
          refine ⟨?_, a.2.1, a.2.2.1, a.2.2.2⟩
          rw [(Ea_sI (M := A) (a := u) (b := q) (k := 64) (v := -1) zu).1, a.1, (st q zt zu).1]
    have eu : ∀ k, k ∈ ([8, 11, 20, 64, 67] : List Nat) → mI R u k = mI (sI (sI M t 18 (-1)) u 64 (-1)) u k := fun k hk => by
      by_cases z64 : k = 64
      · subst z64
        rw [y2.2.2, mI_e]
      · rw [mI_n2 z64, mI_n1 (by omega)]
        by_cases z : k = 20
        · rw [z, y3, k20]
        · rw [y2.2.1 k (by simp only [List.mem_cons, List.not_mem_nil, or_false] at hk ⊢; omega), (EU u (by omega)).1]
    obtain ⟨W, w1, w2⟩ := hs.refX (j := 4) (C := sI A u 64 (-1)) (R := R) (by decide) ec (by show mN A _ = mN M _; rw [XN]) (by show mN A _ = mN M _; rw [XN]) (by rw [mI_n1 (by omega)]; exact x2) (fun q a b c => (rf q a).tr (y2.1 q a b c)) y4 (by rw [mI_n1 (by omega), q2, y5]) eu
    refine ⟨-6, RfM t 4 A, W, ?_, ?_, Λ, w2⟩
    · rw [cl, q1, if_neg (by decide), bo (refuse_eq (j := 4) (c := -6) (by decide) rfl)]; rfl
    · rw [y1]; exact w1
  · have q1 : r4 = 1 := q1
    have hA : A = sI (sI N (t + 171) 3 (-1)) (t + 171) 2 0 := hA
    obtain ⟨g1', g2, g3, g4, g5, g6, g7⟩ := g
    obtain ⟨c1, c2, c3, c4⟩ := g1'.2.2.2.2.2.1
    have hKl : K.length ≤ 400 := by
      have := g1'.2.2.2.2.2.2.1
      have := tkS_le B g1'.2.1
      have := g1'.1.1
      omega
    have eN : ∀ q, q ≠ t + 171 → Ea N A q := fun q a => by rw [hA]; exact (Ea_sI a).tr (Ea_sI a)
    have g22 : mN N (t + 171 + 4) = 72 := g2.2
    have hX : TXT A (t + 173) n K.length I := by
      refine ⟨g3, hKl, ?_, ?_, ?_, ?_, ?_, g7⟩
      · rw [show mN A (t + 173 + 1) = mN N (t + 171 + 3) from (eN (t + 171 + 3) (by omega)).2.2.2, c1]; omega
      · rw [show mN A (t + 173 + 1) = mN N (t + 171 + 3) from (eN (t + 171 + 3) (by omega)).2.2.2, c1]; omega
      · rw [show mN A (t + 173 + 2) = mN N (t + 171 + 4) from (eN (t + 171 + 4) (by omega)).2.2.2, g22]; omega
      · rw [show mN A (t + 173 + 2) = mN N (t + 171 + 4) from (eN (t + 171 + 4) (by omega)).2.2.2, g22]; omega
      · rw [show mI A (t + 173 + 1) = mI N (t + 171 + 3) from (eN (t + 171 + 3) (by omega)).1, show mI A (t + 173 + 2) = mI N (t + 171 + 4) from (eN (t + 171 + 4) (by omega)).1]
        exact g4
    have h3 : mI A (t + 173) 3 = Int32.ofNat n := by
      rw [show mI A (t + 173) = mI N (t + 171 + 2) from (eN (t + 171 + 2) (by omega)).1]; exact g2.1
    have hKO : KOk n I := ⟨s.2.1, s.2.2⟩
    have jA : ∀ Y : Mem, (∀ q, q = u + 2 ∨ q = u + 5 ∨ q = u + 6 → mI Y q = mI M q) → mI Y u 8 = mI M u 8 → mI Y u 20 = 0 → JT Λ t u T A Y := fun Y e e8 e20 => (h.jt.cls (fun q hq => MA q (by omega) (by omega) (by omega) (by omega) (by omega))).ref (e _ (by omega)) (e _ (by omega)) (e _ (by omega)) e8 (by rw [e20, k20])
    -- once from M: what the class comes to
    obtain ⟨Y0, lr0, _, d0, d20, _, _, dl, dT, d21⟩ := ordR_ok (tp M (Ea.rf _ _) (Ea.rf _ _)) K0 s hg hk
    obtain ⟨v, A', W0, cA, _, P0⟩ := ords (jA Y0 (fun q hq => (d0.1 q (by omega) (by omega) (by omega)).1) (d0.2.1 8 (by decide)) d20) hX dl dT hKO h3 d21
    -- and behind it
    have E2 : ∀ q, u ≤ q → Ea A A' q := fun q hq => P0.2.1 q (by unfold OC2 OC CAc; omega)
    have EU : ∀ q, u ≤ q → Ea M A' q := fun q hq => (MA q (by omega) (by omega) (by omega) (by omega) (by omega)).tr (E2 q hq)
    obtain ⟨Y, lr, yO, yd, y20, y13, y18, yl, yT, y21⟩ := ordR_ok (tp A' (EU u (by omega)) (EU (u + 9) (by omega))) (kw A' (fun q a _ => EU q a)) s hg hk
    have EY : ∀ q, u < q → (q < u + 10 ∨ u + 15 ≤ q) → q ≠ u + 40 → Ea M Y q := fun q a b c => (EU q (by omega)).tr (yd.1 q (by omega) b c)
    have uY : ∀ k, k ∉ ([0, 13, 14, 15, 16, 18, 19, 20, 21, 23, 26, 29, 30, 64] : List Nat) → mI Y u k = mI M u k := fun k hk => by rw [yd.2.1 k hk, (EU u (by omega)).1]
    obtain ⟨v', A2, W, cA2, rW, P⟩ := ords (jA Y (fun q hq => (EY q (by omega) (by omega) (by omega)).1) (uY 8 (by decide)) y20) hX yl yT hKO h3 y21
    rw [cA] at cA2
    obtain ⟨rfl, rfl⟩ := Prod.mk.inj (Option.some.inj cA2)
    refine ⟨v, A', W, ?_, by rw [yO, rW], Λ, ?_⟩
    · rw [cl, q1, if_pos (by decide), cA]
    · obtain ⟨JW, pA, pB, pt, p16, p18, pu, pr⟩ := P
      have cw : ∀ q, q < u → Ea A' W q := fun q hq => (yd.1 q (by omega) (by omega) (by omega)).tr (pB q (by unfold OR2 OR RAc; omega))
      have cT : ∀ q, u + 42 ≤ q → Ea A' W q := fun q hq => (yd.1 q (by omega) (by omega) (by omega)).tr (pB q (by unfold OR2 OR RAc; omega))
      have MW : ∀ q, (u < q → (q < u + 10 ∨ u + 15 ≤ q) ∧ q ≠ u + 40) → q ≠ u → ¬ OR2 u q → ¬ OC2 t q → q ≠ t + 171 → q ≠ t + 173 → q ≠ t + 174 → q ≠ t + 175 → Ea M W q := fun q a b c d e f g i => by
        by_cases z : q < u
        · exact ((MA q (fun y => d (by unfold OC2; omega)) e f g i).tr (pA q d)).tr (cw q z)
        · exact (EY q (by omega) (a (by omega)).1 (a (by omega)).2).tr (pB q c)
      have mw : ∀ q, ((t + 10 ≤ q ∧ q < t + 29) ∨ (t + 191 ≤ q ∧ q < t + 203) ∨ q = t + 172 ∨ q = t + 276 ∨ q = u + 3 ∨ q = u + 4 ∨ q = u + 9 ∨ q = u + 15 ∨ q = u + 16 ∨ q = u + 17 ∨ q = u + 39 ∨ q = u + 41 ∨ u + 42 ≤ q) → Ea M W q := fun q hq => MW q (by omega) (by omega) (by unfold OR2 OR RAc; omega) (by unfold OC2 OC CAc; omega) (by omega) (by omega) (by omega) (by omega)
      have uW : ∀ k, k ∉ ([0, 1, 8, 13, 14, 15, 16, 18, 19, 20, 21, 23, 26, 29, 30, 34, 38, 62, 63, 64, 65] : List Nat) → mI W u k = mI M u k := fun k hk => by
        rw [pu k (fun z => hk (by simp only [List.mem_cons, List.not_mem_nil, or_false] at z ⊢; omega)), uY k (fun z => hk (by simp only [List.mem_cons, List.not_mem_nil, or_false] at z ⊢; omega))]
      have h171 : mI W (t + 171) = mI A (t + 171) := by rw [(cw (t + 171) (by omega)).1, (pA (t + 171) (by unfold OC2 OC CAc; omega)).1]
      have tW : ∀ k, k ≠ 16 → k ≠ 18 → mI W t k = mI M t k := fun k a b => by
        rw [(cw t (by omega)).1, pt k a b, tA, ← hM1, mI_n2 b]
      obtain ⟨m1, m2, m3, m4, m5, m6⟩ := h.2.2.2.2.2.2.1
      refine ⟨hu, hT, ?_, ?_, ?_, ?_, ⟨?_, ?_, ?_, ?_, ?_, ?_⟩, ?_, ?_, ?_, ?_, ?_, ?_⟩
      · exact JW.2.2.1.keep (fun q a b => cw q (by omega)) (fun q a b => cT q a) (Nat.le_refl _)
      · exact h.2.2.2.1.keep (fun q a b => mw q (by omega)) (mw _ (by omega)).1 (mw _ (by omega)).1 (fun q a b => mw q (by omega)) (Nat.le_refl _)
      · exact (JW.2.2.2.1.keep (fun q a b => cw q (by omega)) rfl rfl rfl).one
      · exact ⟨0, by omega, by rw [h171]; exact x2, by rw [pu 13 (by decide)]; exact y13, fun k hk => absurd hk (by omega)⟩
      · rw [(cw t (by omega)).1]; exact p16
      · rw [tW 17 (by decide) (by decide), uW 11 (by decide)]; exact m2
      · rw [(cw t (by omega)).1]
        exact p18 (by rw [tA, ← hM1, mI_e, yd.2.2])
      · rw [h171, pu 18 (by decide), y18, hA, mI_n2 (by decide), mI_e]
      · intro i hi
        rw [(cw (t + 275) (by omega)).1]
        exact pr (fun i hi => by rw [(MA (t + 275) (by omega) (by omega) (by omega) (by omega) (by omega)).1, (EY (u + 1) (by omega) (by omega) (by omega)).1]; exact m5 i hi) i hi
      · unfold DrR
        rw [uW 67 (by decide), (mw (t + 276) (by omega)).1, (mw (u + 41) (by omega)).1]; exact m6
      · exact JW.2.2.2.2.1.keep (fun q a b => cw q (by omega)) (fun q a b => cT q a) (Nat.le_refl _)
      · exact h.2.2.2.2.2.2.2.2.1.keep (fun q a b => mw q (by omega)) (fun q a b => mw q (by omega)) (Nat.le_refl _)
      · exact K0.keepE (mw _ (by omega)).2.1 (mw _ (by omega)).2.1 (mw _ (by omega)).2.1 (mw _ (by omega)).2.1
      · rw [(cw (t + 174) (by omega)).2.2.2, (pA (t + 174) (by unfold OC2 OC CAc; omega)).2.2.2, XN]; exact k174
      · rw [(cw (t + 175) (by omega)).2.2.2, (pA (t + 175) (by unfold OC2 OC CAc; omega)).2.2.2, XN]; exact k175
      · exact JW.2.2.2.2.2
