/-! ===== the reference reads a clause of a law ===== -/
theorem wloop0 {τ : Type} {Q : τ → Prop} {B : Nat → Nat} {L u p a n : Nat} {N : Mem} {K : Int32 → Option τ} (l : Nat → Nat) (hT : TkR B L u N p) (hn : n < 100) (hl : ∀ k, k < n → l k < 29 ∧ mJ N a k = Int64.ofNat (enc (WL.getD (l k) []))) (hK : ∀ v, ((v = -1 ∧ ∀ k, k < n → ¬ isW B L p (l k)) ∨ ∃ k, k < n ∧ v = Int32.ofNat k ∧ isW B L p (l k)) → So (K v) Q) : So (wl2 (fun (v1 : Int32) (v2 : Int32) rec3 => if Int32.ofNat n ≤ v2 then K v1 else gd (inb v2 n) <| (FX12_isWord u (mJ N a (ix v2)) N).bind fun r7 => jn1 (fun (v8 : Int32) => nm (v2 + 1) fun v11 => rec3 v8 v11) fun j9 => if r7 = 0 then j9 v1 else j9 v2) fuel (-1) 0) Q := by
  refine So_wl2 (fun v j => ∃ i, i ≤ n ∧ j = Int32.ofNat i ∧ ((v = -1 ∧ ∀ k, k < i → ¬ isW B L p (l k)) ∨ ∃ k, k < i ∧ v = Int32.ofNat k ∧ isW B L p (l k))) (fun _ j => n - ix j) ?_ fuel (-1) 0 ⟨0, by omega, rfl, Or.inl ⟨rfl, fun k hk => absurd hk (by omega)⟩⟩ (by unfold fuel; omega)
  rintro v j rec ⟨i, hi, rfl, hv⟩ hr
  by_cases c1 : i = n
  · subst c1
    rw [if_pos (Int32.le_refl _)]; exact hK v hv
  · rw [if_neg (nle (show i < n by omega) (by omega)), nn_ix (by omega)]
    refine So_gd (inb_nn (by omega) (by omega)) ?_
    obtain ⟨l1, l2⟩ := hl i (by omega)
    obtain ⟨w, hw, hw2⟩ := isWord_r hT l1 l2.symm
    rw [hw]
    refine So.bindE rfl (So_jn1R (fun v => (v = -1 ∧ ∀ k, k < i + 1 → ¬ isW B L p (l k)) ∨ ∃ k, k < i + 1 ∧ v = Int32.ofNat k ∧ isW B L p (l k)) (fun v' hv' => So_nm ?_) (fun j9 hj9 => ?_))
    · rw [s1]
      exact hr _ _ ⟨i + 1, by omega, rfl, hv'⟩ (by rw [nn_ix (by omega), nn_ix (by omega)]; omega)
    · rcases hw2 with ⟨rfl, w2⟩ | ⟨rfl, w2⟩
      · rw [if_neg (by decide)]
        exact hj9 _ (Or.inr ⟨i, by omega, rfl, w2⟩)
      · rw [if_pos rfl]
        refine hj9 _ ?_
        rcases hv with ⟨a1, a2⟩ | ⟨k, k1, k2, k3⟩
        · refine Or.inl ⟨a1, fun k hk => ?_⟩
          by_cases z : k = i
          · rw [z]; exact w2
          · exact a2 k (by omega)
        · exact Or.inr ⟨k, by omega, k2, k3⟩
def lawRest (t : Nat) (v1 v9 : Int32) (M19 : Mem) : Option Mem :=
              jn1 (fun (M21 : Mem) =>
                gd (inb (v9 + 4) 96) <|
                nm (sI M21 (t + 10) (ix (v9 + 4)) (mI M21 t 23)) fun M25 =>
                gd (inb (v9 + 5) 96) <|
                nm (sI M25 (t + 10) (ix (v9 + 5)) (mI M25 t 23)) fun M28 =>
                jn1 (fun (M30 : Mem) =>
                  gd (inb (v9 + 6) 96) <|
                  nm (sI M30 (t + 10) (ix (v9 + 6)) (mI M30 t 23)) fun M34 =>
                  some M34) fun j31 =>
                if ¬ (mI M28 t 19) = 0 then
                  j31 M28
                else
                (FX12_isWord t 294 M28).bind fun r36 =>
                if r36 = 0 then
                  j31 M28
                else
                (FX12_next t M28).bind fun M37 =>
                (FX12_readExpression t 1 M37).bind fun M38 =>
                j31 M38) fun j22 =>
              if v1 = 6 then
                j22 M19
              else
              (FX12_readExpression t 0 M19).bind fun M39 =>
              j22 M39
/-- the head of a clause is read -/
def LHd (B : Nat → Nat) (L u o a : Nat) (N : Mem) (p lv nc : Nat) (C : List (Nat × Nat)) (v1 : Nat) (N1 : Mem) : Prop := ML u a N N1 ∧ RE B L u o N1 (tkE B L p) lv C ∧ mI N1 u 21 = Int32.ofNat (nc + 1) ∧ mI N1 (u + a) (8 * nc) = Int32.ofNat v1 ∧ ∀ k, k < 8 * nc → mI N1 (u + a) k = mI N (u + a) k
theorem ML.re {B : Nat → Nat} {L u o p lv a : Nat} {N N' : Mem} {C : List (Nat × Nat)} (h : RE B L u o N p lv C) (x : RE B L u o N' p lv C) : True := trivial
theorem law_head {B : Nat → Nat} {L u p lv nc : Nat} {N : Mem} {C : List (Nat × Nat)} {Q : Mem → Prop} (h : RE B L u 0 N p lv C) (h21 : mI N u 21 = Int32.ofNat nc) (hnc : nc ≤ 12) (hb : (12 ≤ nc ∨ ∀ k, HdOk 0 k → ¬ isW B L p k) → ∀ N', ML u 10 N N' → Bad u N' (tkS B L p) → Q N') (hg : nc < 12 → ∀ kind, kind ≤ 6 → isW B L p kind → ∀ N1, LHd B L u 0 10 N p lv nc C kind N1 → mI N1 (u + 10) (8 * nc + 3) = Int32.ofNat C.length → So (lawRest u (Int32.ofNat kind) (Int32.ofNat (8 * nc)) N1) Q) : So (FX12_readLaw u N) Q := by
  have hT := h.2.2.1
  have hKW := h.2.2.2.2.2.2.2.2.2.2.2
  unfold FX12_readLaw
  refine wloop0 (n := 7) (fun k => k) hT (by decide) (fun k hk => ⟨by omega, hKW.2.2.1 k hk⟩) (fun v1 hv1 => ?_)
  refine So_jn1R (fun v => (v = 1 ∧ nc < 12 ∧ ∃ k, k < 7 ∧ v1 = Int32.ofNat k ∧ isW B L p k) ∨ (v = 0 ∧ (12 ≤ nc ∨ ∀ k, HdOk 0 k → ¬ isW B L p k))) (fun v5 hv5 => ?_) (fun j6 hj6 => So_jn0 ?_)
  · rcases hv5 with ⟨rfl, hn, kind, hk, rfl, hw⟩ | ⟨rfl, hn⟩
    · refine So.bind (must_re h 1) (fun M8 h8 => ?_)
      obtain ⟨p8, ⟨_, r8⟩ | ⟨z, _⟩⟩ := h8
      rotate_left
      · exact absurd z (by decide)
      have m8 := p8.ml (a := 10) (Or.inl rfl)
      rw [r8.2.2.2.1, if_pos rfl]
      refine So_nm ?_
      have e21 : mI M8 u 21 = Int32.ofNat nc := by rw [p8.2.1 21 (by decide)]; exact h21
      have e9 : (8 : Int32) * Int32.ofNat nc = Int32.ofNat (8 * nc) := nn_mul 8 nc
      rw [e21, e9]
      have c8 : ∀ k, mI M8 (u + 10) k = mI N (u + 10) k := fun k => by rw [(p8.1 (u + 10) (by omega) (by omega) (by omega) (by omega) (by omega)).1]
      refine loop_for 8 (by decide) (fun i K => ML u 10 N K ∧ RE B L u 0 K (tkE B L p) lv C ∧ mI K u 21 = Int32.ofNat nc ∧ ∀ k, k < 8 * nc → mI K (u + 10) k = mI N (u + 10) k) M8 ⟨m8, r8, e21, fun k _ => c8 k⟩ (fun K rec hI => ?_) (fun i K rec hi hI hr => ?_)
      · obtain ⟨a1, a2, a3, a4⟩ := hI
        have e3 : Int32.ofNat (8 * nc) + 3 = Int32.ofNat (8 * nc + 3) := nn_add (8 * nc) 3
        refine So.ite (fun _ => ?_) (fun hc => absurd hc (ge_self 8))
        rw [nn_ix (by omega)]
        refine So_gd (inb_nn (by omega) (by decide)) (So_nm (So_nm ?_))
        have b1 : mI (sI K (u + 10) (8 * nc) (Int32.ofNat kind)) u 21 = Int32.ofNat nc := by rw [mI_sI, if_neg (by omega)]; exact a3
        rw [b1, s1, e3, nn_ix (by omega)]
        refine So_gd (inb_nn (by omega) (by decide)) (So_nm ?_)
        have r2 : RE B L u 0 (sI (sI K (u + 10) (8 * nc) (Int32.ofNat kind)) u 21 (Int32.ofNat (nc + 1))) (tkE B L p) lv C := (a2.mark (Or.inl rfl)).m21
        have b23 := r2.2.2.2.2.2.2.1
        rw [b23]
        refine hg hn kind (by omega) hw _ ⟨((a1.tr (ML_c (by decide))).tr ML_21).tr (ML_c (by decide)), r2.mark (Or.inl rfl), ?_, ?_, fun k hk => ?_⟩ ?_
        · rw [mI_sI, if_neg (by omega), mI_sI, if_pos ⟨rfl, rfl⟩]
        · rw [mI_sI, if_neg (by omega), mI_sI, if_neg (by omega), mI_sI, if_pos ⟨rfl, rfl⟩]
        · rw [mI_sI, if_neg (by omega), mI_sI, if_neg (by omega), mI_sI, if_neg (by omega)]; exact a4 k hk
        · rw [mI_sI, if_pos ⟨rfl, rfl⟩]
      · obtain ⟨a1, a2, a3, a4⟩ := hI
        refine So.ite (fun hc => absurd hc (nle hi (by decide))) (fun _ => ?_)
        rw [nn_add, nn_ix (by omega)]
        refine So_gd (inb_nn (by omega) (by decide)) (So_nm (So_nm (hr _ ⟨a1.tr (ML_c (by decide)), a2.mark (Or.inl rfl), by rw [mI_sI, if_neg (by omega)]; exact a3, fun k hk => ?_⟩)))
        rw [mI_sI, if_neg (by omega)]; exact a4 k hk
    · refine So.bind (must_re h 0) (fun M8 h8 => ?_)
      obtain ⟨p8, ⟨z, _⟩ | ⟨_, b8⟩⟩ := h8
      · exact absurd rfl z
      rw [b8.1, if_neg (by decide)]
      exact So.ok (hb hn M8 (p8.ml (Or.inl rfl)) b8)
  · rcases hv1 with ⟨rfl, hno⟩ | ⟨k, hk, rfl, hw⟩
    · rw [if_pos rfl]
      refine hj6 _ (Or.inr ⟨rfl, Or.inr (fun k hk => ?_)⟩)
      rcases hk with ⟨_, z⟩ | ⟨z, _⟩
      · exact hno k (by omega)
      · omega
    · rw [if_neg (fun z => by
        have := congrArg Int32.toInt z
        rw [nn_int (by omega), show (-1 : Int32).toInt = -1 from rfl] at this; omega), h21]
      by_cases c12 : 12 ≤ nc
      · rw [if_pos (show (12 : Int32) ≤ Int32.ofNat nc from (nn_le (a := 12) (by omega) (by omega)).mpr c12)]
        exact hj6 _ (Or.inr ⟨rfl, Or.inl c12⟩)
      · rw [if_neg (show ¬ (12 : Int32) ≤ Int32.ofNat nc from nle (n := 12) (by omega) (by decide))]
        exact hj6 _ (Or.inl ⟨rfl, by omega, k, hk, rfl, hw⟩)
/-- what the reference holds of a clause of a law -/
def LGd (B : Nat → Nat) (L u : Nat) (N : Mem) (nc : Nat) (C : List (Nat × Nat)) (kind p' lv' : Nat) (f1 ft : Option Den) (N' : Mem) : Prop := ML u 10 N N' ∧ ∃ Y1 Yt, RE B L u 0 N' p' lv' (C ++ Y1 ++ Yt) ∧ mI N' u 21 = Int32.ofNat (nc + 1) ∧ SgR 0 Y1 C.length f1 ∧ SgR 0 Yt (C.length + Y1.length) ft ∧ mI N' (u + 10) (8 * nc) = Int32.ofNat kind ∧ mI N' (u + 10) (8 * nc + 3) = Int32.ofNat C.length ∧ mI N' (u + 10) (8 * nc + 4) = Int32.ofNat (C.length + Y1.length) ∧ mI N' (u + 10) (8 * nc + 5) = Int32.ofNat (C.length + Y1.length) ∧ mI N' (u + 10) (8 * nc + 6) = Int32.ofNat (C.length + Y1.length + Yt.length) ∧ ∀ k, k < 8 * nc → mI N' (u + 10) k = mI N (u + 10) k
/-- behind the first sum -/
theorem law_mid {B : Nat → Nat} {L u p1 lv1 nc kind : Nat} {N M21 : Mem} {C Y1 : List (Nat × Nat)} {f1 : Option Den} {Q : Mem → Prop} (hn : nc < 12) (ml : ML u 10 N M21) (r : RE B L u 0 M21 p1 lv1 (C ++ Y1)) (h21 : mI M21 u 21 = Int32.ofNat (nc + 1)) (g1 : SgR 0 Y1 C.length f1) (c0 : mI M21 (u + 10) (8 * nc) = Int32.ofNat kind) (c3 : mI M21 (u + 10) (8 * nc + 3) = Int32.ofNat C.length) (cc : ∀ k, k < 8 * nc → mI M21 (u + 10) k = mI N (u + 10) k) (hH : (∃ p' lv' ft, S4 B L 0 p1 lv1 p' lv' ft ∧ ∀ N', LGd B L u N nc C kind p' lv' f1 ft N' → Q N') ∨ (∃ f, isW B L p1 23 ∧ TsF B L 0 0 (tkE B L p1) lv1 f ∧ ∀ N', ML u 10 N N' → Bad u N' f → Q N')) : So (gd (inb (Int32.ofNat (8 * nc) + 4) 96) <| nm (sI M21 (u + 10) (ix (Int32.ofNat (8 * nc) + 4)) (mI M21 u 23)) fun M25 => gd (inb (Int32.ofNat (8 * nc) + 5) 96) <| nm (sI M25 (u + 10) (ix (Int32.ofNat (8 * nc) + 5)) (mI M25 u 23)) fun M28 => jn1 (fun (M30 : Mem) => gd (inb (Int32.ofNat (8 * nc) + 6) 96) <| nm (sI M30 (u + 10) (ix (Int32.ofNat (8 * nc) + 6)) (mI M30 u 23)) fun M34 => some M34) fun j31 => if ¬ (mI M28 u 19) = 0 then j31 M28 else (FX12_isWord u 294 M28).bind fun r36 => if r36 = 0 then j31 M28 else (FX12_next u M28).bind fun M37 => (FX12_readExpression u 1 M37).bind fun M38 => j31 M38) Q := by
  have e4 : Int32.ofNat (8 * nc) + 4 = Int32.ofNat (8 * nc + 4) := nn_add (8 * nc) 4
  have e5 : Int32.ofNat (8 * nc) + 5 = Int32.ofNat (8 * nc + 5) := nn_add (8 * nc) 5
  have e6 : Int32.ofNat (8 * nc) + 6 = Int32.ofNat (8 * nc + 6) := nn_add (8 * nc) 6
  have l1 : mI M21 u 23 = Int32.ofNat (C.length + Y1.length) := by have := r.2.2.2.2.2.2.1; rwa [List.length_append] at this
  rw [e4, e5, e6, nn_ix (by omega), nn_ix (by omega), nn_ix (by omega), l1]
  refine So_gd (inb_nn (by omega) (by decide)) (So_nm (So_gd (inb_nn (by omega) (by decide)) (So_nm ?_)))
  have l2 : mI (sI M21 (u + 10) (8 * nc + 4) (Int32.ofNat (C.length + Y1.length))) u 23 = Int32.ofNat (C.length + Y1.length) := by rw [mI_sI, if_neg (by omega)]; exact l1
  rw [l2]
  have r2 : RE B L u 0 (sI (sI M21 (u + 10) (8 * nc + 4) (Int32.ofNat (C.length + Y1.length))) (u + 10) (8 * nc + 5) (Int32.ofNat (C.length + Y1.length))) p1 lv1 (C ++ Y1) := (r.mark (Or.inl rfl)).mark (Or.inl rfl)
  have m2 : ML u 10 N (sI (sI M21 (u + 10) (8 * nc + 4) (Int32.ofNat (C.length + Y1.length))) (u + 10) (8 * nc + 5) (Int32.ofNat (C.length + Y1.length))) := (ml.tr (ML_c (by decide))).tr (ML_c (by decide))
  have cel : ∀ k, mI (sI (sI M21 (u + 10) (8 * nc + 4) (Int32.ofNat (C.length + Y1.length))) (u + 10) (8 * nc + 5) (Int32.ofNat (C.length + Y1.length))) (u + 10) k = if k = 8 * nc + 5 ∨ k = 8 * nc + 4 then Int32.ofNat (C.length + Y1.length) else mI M21 (u + 10) k := fun k => by
    rw [mI_sI, mI_sI]
    by_cases z : k = 8 * nc + 5
    · rw [if_pos ⟨rfl, z⟩, if_pos (Or.inl z)]
    · rw [if_neg (fun y => z y.2)]
      by_cases z2 : k = 8 * nc + 4
      · rw [if_pos ⟨rfl, z2⟩, if_pos (Or.inr z2)]
      · rw [if_neg (fun y => z2 y.2), if_neg (by omega)]
  have f21 : mI (sI (sI M21 (u + 10) (8 * nc + 4) (Int32.ofNat (C.length + Y1.length))) (u + 10) (8 * nc + 5) (Int32.ofNat (C.length + Y1.length))) u 21 = Int32.ofNat (nc + 1) := by rw [mI_sI, if_neg (by omega), mI_sI, if_neg (by omega)]; exact h21
  generalize sI (sI M21 (u + 10) (8 * nc + 4) (Int32.ofNat (C.length + Y1.length))) (u + 10) (8 * nc + 5) (Int32.ofNat (C.length + Y1.length)) = M28 at r2 m2 cel f21
  have fin : ∀ (M30 : Mem) (Yt : List (Nat × Nat)) (p' lv' : Nat) (ft : Option Den), PF u M28 M30 → RE B L u 0 M30 p' lv' (C ++ Y1 ++ Yt) → SgR 0 Yt (C.length + Y1.length) ft → (∀ N', LGd B L u N nc C kind p' lv' f1 ft N' → Q N') → So (gd (inb (Int32.ofNat (8 * nc + 6)) 96) <| nm (sI M30 (u + 10) (8 * nc + 6) (mI M30 u 23)) fun M34 => some M34) Q := by
    intro M30 Yt p' lv' ft p30 r30 gt hQ
    have l3 : mI M30 u 23 = Int32.ofNat (C.length + Y1.length + Yt.length) := by have := r30.2.2.2.2.2.2.1; simpa only [List.length_append] using this
    rw [l3]
    have c30 : ∀ k, mI M30 (u + 10) k = mI M28 (u + 10) k := fun k => by rw [(p30.1 (u + 10) (by omega) (by omega) (by omega) (by omega) (by omega)).1]
    refine So_gd (inb_nn (by omega) (by decide)) (So_nm (So.ok (hQ _ ⟨(m2.tr (p30.ml (Or.inl rfl))).tr (ML_c (by decide)), Y1, Yt, r30.mark (Or.inl rfl), ?_, g1, gt, ?_, ?_, ?_, ?_, ?_, fun k hk => ?_⟩)))
    · rw [mI_sI, if_neg (by omega), p30.2.1 21 (by decide)]; exact f21
    · rw [mI_sI, if_neg (by omega), c30, cel, if_neg (by omega)]; exact c0
    · rw [mI_sI, if_neg (by omega), c30, cel, if_neg (by omega)]; exact c3
    · rw [mI_sI, if_neg (by omega), c30, cel, if_pos (by omega)]
    · rw [mI_sI, if_neg (by omega), c30, cel, if_pos (by omega)]
    · rw [mI_sI, if_pos ⟨rfl, rfl⟩]
    · rw [mI_sI, if_neg (by omega), c30, cel, if_neg (by omega)]; exact cc k hk
  refine So_jn1 ?_
  rw [r2.2.2.2.1, if_neg (by decide)]
  obtain ⟨v23, e23, s23⟩ := isWord_r (j := 23) (c := 294) r2.2.2.1 (by decide) (by decide +kernel)
  rw [e23]
  refine So.bindE rfl ?_
  rcases hH with ⟨p', lv', ft, hS4, hQ⟩ | ⟨f, hw, hF, hQ⟩
  · rcases hS4 with ⟨n23, rfl, rfl, rfl⟩ | ⟨w23, f, rfl, hTB, n26, n27, hS⟩
    · rcases s23 with ⟨_, z⟩ | ⟨rfl, _⟩
      · exact absurd z n23
      rw [if_pos rfl]
      exact fin M28 [] _ _ none PF.rf (by simpa using r2) (Or.inl ⟨rfl, rfl⟩) hQ
    · rcases s23 with ⟨rfl, _⟩ | ⟨_, z⟩
      · rw [if_neg (by decide)]
        refine So.bind (next_re r2) (fun M37 h37 => So.bind (expr_test h37.2 (hS u) n26 n27) (fun M38 h38 => ?_))
        obtain ⟨p38, Yt, r38, d38⟩ := h38
        exact fin M38 Yt p' lv' (some f) (h37.1.tr p38) r38 (Or.inr ⟨f, rfl, by rw [List.length_append] at d38; exact d38⟩) hQ
      · exact absurd w23 z
  · rcases s23 with ⟨rfl, _⟩ | ⟨_, z⟩
    · rw [if_neg (by decide)]
      refine So.bind (next_re r2) (fun M37 h37 => So.bind (expr_testF h37.2 (hF u)) (fun M38 h38 => ?_))
      obtain ⟨p38, b38⟩ := h38
      refine So_gd (inb_nn (by omega) (by decide)) (So_nm (So.ok (hQ _ ((m2.tr ((h37.1.tr p38).ml (Or.inl rfl))).tr (ML_c (by decide))) ⟨?_, ?_⟩)))
      · rw [mI_sI, if_neg (by omega)]; exact b38.1
      · rw [mI_sI, if_neg (by omega)]; exact b38.2
    · exact absurd hw z
