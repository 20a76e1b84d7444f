/-! ===== an order, whole ===== -/
def aK (kind : Nat) : Nat := if kind = 10 then 0 else kind - 6
def kA (k : Nat) : Nat := ([10, 7, 8, 9] : List Nat).getD k 0
theorem kA_t : ∀ k, k < 4 → aK (kA k) = k ∧ 7 ≤ kA k ∧ kA k ≤ 10 := by decide
theorem aK_t : ∀ kind, kind ≤ 10 → 7 ≤ kind → aK kind < 4 ∧ kA (aK kind) = kind := by decide
def ordA (t : Nat) (v1 v9 : Int32) (M18 : Mem) : Option Mem :=
  jn1 (fun (M21 : Mem) => ordB t v9 M21) fun j22 =>
  jn0 (
    jn1 (fun (M51 : Mem) =>
      (FX12_readSum t (v9 + 3) M51).bind fun M54 =>
      j22 M54) fun j52 =>
    if ¬ (mI M18 t 19) = 0 then
      j52 M18
    else
    (FX12_isWord t 89 M18).bind fun r55 =>
    (FX12_must t r55 M18).bind fun M56 =>
    j52 M56) fun j49 =>
  if v1 = 1 then
    j49
  else
  if ¬ v1 = 2 then
    j22 M18
  else
  j49
def ordS (t : Nat) (v1 v9 : Int32) (M16 : Mem) : Option Mem :=
  jn1 (fun (M18 : Mem) => ordA t v1 v9 M18) fun j19 =>
  if v1 = 3 then
    j19 M16
  else
  (FX12_readSum t (v9 + 1) M16).bind fun M57 =>
  j19 M57
theorem act_two {a : Nat} (ha : a < 4) : ((Int32.ofNat a = 1) ↔ a = 1) ∧ ((Int32.ofNat a = 2) ↔ a = 2) ∧ ((Int32.ofNat a = 3) ↔ a = 3) := ⟨nn_eq (b := 1) (by omega) (by omega), nn_eq (b := 2) (by omega) (by omega), nn_eq (b := 3) (by omega) (by omega)⟩
theorem ordA_by {τ : Type} {t a nc : Nat} {M : Mem} {Q : Mem → Prop} (ha : a < 4) (h1 : ¬ (a = 1 ∨ a = 2) → So (ordB t (Int32.ofNat (8 * nc)) M) Q) (h2 : (a = 1 ∨ a = 2) → So (jn1 (fun (M51 : Mem) => (FX12_readSum t (Int32.ofNat (8 * nc) + 3) M51).bind fun M54 => ordB t (Int32.ofNat (8 * nc)) M54) fun j52 => if ¬ (mI M t 19) = 0 then j52 M else (FX12_isWord t 89 M).bind fun r55 => (FX12_must t r55 M).bind fun M56 => j52 M56) Q) : So (ordA t (Int32.ofNat a) (Int32.ofNat (8 * nc)) M) Q := by
  obtain ⟨e1, e2, e3⟩ := act_two ha
  unfold ordA
  refine So_jn1 (So_jn0 (So.ite (fun q => h2 (Or.inl (e1.mp q))) (fun q => So.ite (fun w => h1 ?_) (fun w => h2 (Or.inr (e2.mp (Classical.not_not.mp w)))))))
  rintro (y | y)
  · exact q (e1.mpr y)
  · exact w (e2.mpr y)
/-- cells of a sum -/
def Cl2 (u : Nat) (N : Mem) (at' : Nat) (f : Option Den) (x y : Nat) : Prop := (f = none ∧ mI N (u + 40) at' = mI N (u + 40) (at' + 1)) ∨ (f ≠ none ∧ mI N (u + 40) at' = Int32.ofNat x ∧ mI N (u + 40) (at' + 1) = Int32.ofNat y)
theorem ordA_ok {B : Nat → Nat} {L u p1 lv1 p2 lv2 p3 p' lv' nc kind times : Nat} {M : Mem} {C : List (Nat × Nat)} {f2 ft : Option Den} (hn : nc < 12) (hk : 7 ≤ kind ∧ kind ≤ 10) (h : RE B L u 1 M p1 lv1 C) (hz : mI M (u + 40) (8 * nc + 3) = mI M (u + 40) (8 * nc + 4)) (h2 : S2 B L 1 p1 lv1 kind p2 lv2 f2) (h3 : S3 B L 1 p2 times p3) (h4 : S4 B L 1 p3 lv2 p' lv' ft) : So (ordA u (Int32.ofNat (aK kind)) (Int32.ofNat (8 * nc)) M) (fun N => ML u 40 M N ∧ mI N u 21 = mI M u 21 ∧ Oc u M N (fun k => 8 * nc + 3 ≤ k ∧ k < 8 * nc + 8) ∧ ∃ Y2 Yt, RE B L u 1 N p' lv' (C ++ Y2 ++ Yt) ∧ SgR 1 Y2 C.length f2 ∧ SgR 1 Yt (C.length + Y2.length) ft ∧ Cl2 u N (8 * nc + 3) f2 C.length (C.length + Y2.length) ∧ mI N (u + 40) (8 * nc + 5) = Int32.ofNat (C.length + Y2.length) ∧ mI N (u + 40) (8 * nc + 6) = Int32.ofNat (C.length + Y2.length + Yt.length) ∧ mI N (u + 40) (8 * nc + 7) = Int32.ofNat times) := by
  obtain ⟨a4, _⟩ := aK_t kind hk.2 hk.1
  have ha : (aK kind = 1 ∨ aK kind = 2) ↔ (kind = 7 ∨ kind = 8) := by unfold aK; split <;> omega
  refine ordA_by (τ := Mem) a4 (fun q => ?_) (fun q => ?_)
  · rcases h2 with ⟨_, _, rfl, rfl, rfl⟩ | ⟨z, _⟩
    rotate_left
    · exact absurd (ha.mpr z) q
    refine (ordB_ok hn h h3 h4).mono (fun N hN => ?_)
    obtain ⟨b1, b2, b3, Y, b4, b5, b6, b7, b8⟩ := hN
    exact ⟨b1, b2, b3.up (fun k hk => by omega), [], Y, by simpa using b4, Or.inl ⟨rfl, rfl⟩, by simpa using b5, Or.inl ⟨rfl, by rw [b3 (8 * nc + 3) (by omega), b3 (8 * nc + 3 + 1) (by omega)]; exact hz⟩, by simpa using b6, by simpa using b7, b8⟩
  · rcases h2 with ⟨z1, z2, _⟩ | ⟨_, w25, f, rfl, hS⟩
    · rcases ha.mp q with z | z
      · exact absurd z z1
      · exact absurd z z2
    refine So_jn1 ?_
    rw [h.2.2.2.1, if_neg (by decide)]
    obtain ⟨v, e, s⟩ := isWord_r (j := 25) (c := 89) h.2.2.1 (by decide) (by decide +kernel)
    rw [e]
    refine So.bindE rfl ?_
    rcases s with ⟨rfl, _⟩ | ⟨_, z⟩
    rotate_left
    · exact absurd w25 z
    refine So.bind (must_re h 1) (fun M56 h56 => ?_)
    obtain ⟨p56, ⟨_, r56⟩ | ⟨z, _⟩⟩ := h56
    rotate_left
    · exact absurd z (by decide)
    rw [show Int32.ofNat (8 * nc) + 3 = Int32.ofNat (8 * nc + 3) from nn_add (8 * nc) 3]
    refine So.bind (readSum_ok (by omega) r56 hS) (fun M54 h54 => ?_)
    obtain ⟨c1, c2, c3, Y, c4, c5, c6, c7⟩ := h54
    refine (ordB_ok hn c4 h3 h4).mono (fun N hN => ?_)
    obtain ⟨b1, b2, b3, Yt, b4, b5, b6, b7, b8⟩ := hN
    simp only [List.length_append] at b5 b6 b7
    refine ⟨((p56.ml (Or.inr (by decide))).tr c1).tr b1, by rw [b2, c2, p56.2.1 21 (by decide)], (p56.oc.tr (c3.up (fun k hk => by omega))).tr (b3.up (fun k hk => by omega)), Y, Yt, b4, Or.inr ⟨f, rfl, c5⟩, b5, Or.inr ⟨by simp, ?_, ?_⟩, b6, b7, b8⟩
    · rw [b3 (8 * nc + 3) (by omega)]; exact c6
    · rw [b3 (8 * nc + 3 + 1) (by omega)]; exact c7
theorem ordA_B {u nc a f : Nat} {M : Mem} (hn : nc < 12) (ha : a < 4) (h : Bad u M f) : So (ordA u (Int32.ofNat a) (Int32.ofNat (8 * nc)) M) (fun N => ML u 40 M N ∧ Bad u N f) := by
  refine ordA_by (τ := Mem) ha (fun q => ordB_B hn h) (fun q => ?_)
  refine So_jn1 ?_
  rw [h.1, if_pos (by decide), show Int32.ofNat (8 * nc) + 3 = Int32.ofNat (8 * nc + 3) from nn_add (8 * nc) 3]
  exact So.bind (readSum_B (by omega) h) (fun M1 h1 => (ordB_B hn h1.2).mono (fun N hN => ⟨h1.1.tr hN.1, hN.2⟩))
theorem ordA_F {B : Nat → Nat} {L u p1 lv1 nc kind f : Nat} {M : Mem} {C : List (Nat × Nat)} (hn : nc < 12) (hk : 7 ≤ kind ∧ kind ≤ 10) (h : RE B L u 1 M p1 lv1 C) (hb : ((kind = 7 ∨ kind = 8) ∧ ((¬ isW B L p1 25 ∧ f = tkS B L p1) ∨ (isW B L p1 25 ∧ SmF B L 1 0 (tkE B L p1) lv1 f))) ∨ ∃ p2 lv2 f2, S2 B L 1 p1 lv1 kind p2 lv2 f2 ∧ ((1 = 1 ∧ isW B L p2 24 ∧ ¬ (tkK B L (tkE B L p2) = 2 ∧ 1 ≤ tkN B L (tkE B L p2) ∧ tkN B L (tkE B L p2) ≤ 20) ∧ f = tkS B L (tkE B L p2)) ∨ ∃ times p3, S3 B L 1 p2 times p3 ∧ isW B L p3 23 ∧ TsF B L 1 0 (tkE B L p3) lv2 f)) : So (ordA u (Int32.ofNat (aK kind)) (Int32.ofNat (8 * nc)) M) (fun N => ML u 40 M N ∧ Bad u N f) := by
  obtain ⟨a4, _⟩ := aK_t kind hk.2 hk.1
  have ha : (aK kind = 1 ∨ aK kind = 2) ↔ (kind = 7 ∨ kind = 8) := by unfold aK; split <;> omega
  refine ordA_by (τ := Mem) a4 (fun q => ?_) (fun q => ?_)
  · rcases hb with ⟨z, _⟩ | ⟨p2, lv2, f2, h2, hb⟩
    · exact absurd (ha.mpr z) q
    rcases h2 with ⟨_, _, rfl, rfl, rfl⟩ | ⟨z, _⟩
    · exact ordB_F hn h (hb.imp (fun z => z.2) id)
    · exact absurd (ha.mpr z) q
  · refine So_jn1 ?_
    rw [h.2.2.2.1, if_neg (by decide), show Int32.ofNat (8 * nc) + 3 = Int32.ofNat (8 * nc + 3) from nn_add (8 * nc) 3]
    obtain ⟨v, e, s⟩ := isWord_r (j := 25) (c := 89) h.2.2.1 (by decide) (by decide +kernel)
    rw [e]
    refine So.bindE rfl (So.bind (must_re h v) (fun M56 h56 => ?_))
    obtain ⟨p56, q56⟩ := h56
    have mm : ML u 40 M M56 := p56.ml (Or.inr (by decide))
    rcases s with ⟨rfl, w⟩ | ⟨rfl, w⟩
    · have r56 : RE B L u 1 M56 (tkE B L p1) lv1 C := by
        rcases q56 with ⟨_, z⟩ | ⟨z, _⟩
        · exact z
        · exact absurd z (by decide)
      rcases hb with ⟨_, ⟨z, _⟩ | ⟨_, hF⟩⟩ | ⟨p2, lv2, f2, h2, hb⟩
      · exact absurd w z
      · exact So.bind (readSum_F (by omega) r56 hF) (fun M1 h1 => (ordB_B hn h1.2).mono (fun N hN => ⟨(mm.tr h1.1).tr hN.1, hN.2⟩))
      · rcases h2 with ⟨z1, z2, _⟩ | ⟨_, _, g, rfl, hS⟩
        · rcases ha.mp q with z | z
          · exact absurd z z1
          · exact absurd z z2
        refine So.bind (readSum_ok (by omega) r56 hS) (fun M1 h1 => ?_)
        obtain ⟨c1, c2, c3, Y, c4, c5, c6, c7⟩ := h1
        exact (ordB_F hn c4 (hb.imp (fun z => z.2) id)).mono (fun N hN => ⟨(mm.tr c1).tr hN.1, hN.2⟩)
    · have b56 : Bad u M56 (tkS B L p1) := by
        rcases q56 with ⟨z, _⟩ | ⟨_, z⟩
        · exact absurd rfl z
        · exact z
      have hf : f = tkS B L p1 := by
        rcases hb with ⟨_, ⟨_, z⟩ | ⟨z, _⟩⟩ | ⟨p2, lv2, f2, h2, _⟩
        · exact z
        · exact absurd z w
        · rcases h2 with ⟨z1, z2, _⟩ | ⟨_, z, _⟩
          · rcases ha.mp q with y | y
            · exact absurd y z1
            · exact absurd y z2
          · exact absurd z w
      rw [hf]
      exact So.bind (readSum_B (by omega) b56) (fun M1 h1 => (ordB_B hn h1.2).mono (fun N hN => ⟨(mm.tr h1.1).tr hN.1, hN.2⟩))
/-- the head of an order -/
theorem ord_head {B : Nat → Nat} {L u p lv nc : Nat} {N : Mem} {C : List (Nat × Nat)} {Q : Mem → Prop} (h : RE B L u 1 N p lv C) (h21 : mI N u 21 = Int32.ofNat nc) (hnc : nc ≤ 12) (hb : (12 ≤ nc ∨ ∀ k, HdOk 1 k → ¬ isW B L p k) → ∀ N', ML u 40 N N' → Bad u N' (tkS B L p) → Q N') (hg : nc < 12 → ∀ kind, 7 ≤ kind → kind ≤ 10 → isW B L p kind → ∀ N1, ML u 40 N N1 → RE B L u 1 N1 (tkE B L p) lv C → mI N1 u 21 = Int32.ofNat (nc + 1) → mI N1 (u + 40) (8 * nc) = Int32.ofNat (aK kind) → (∀ k, 8 * nc < k → k < 8 * nc + 8 → mI N1 (u + 40) k = 0) → (∀ k, k < 8 * nc → mI N1 (u + 40) k = mI N (u + 40) k) → So (ordS u (Int32.ofNat (aK kind)) (Int32.ofNat (8 * nc)) N1) Q) : So (FX12_readOrder u N) Q := by
  have hT := h.2.2.1
  have hKW := h.2.2.2.2.2.2.2.2.2.2.2
  unfold FX12_readOrder
  refine wloop0 (n := 4) kA hT (by decide) (fun k hk => ⟨by have := (kA_t k hk).2.2; omega, hKW.2.2.2 k hk⟩) (fun v1 hv1 => ?_)
  refine So_jn1R (fun v => (v = 1 ∧ nc < 12 ∧ ∃ k, k < 4 ∧ v1 = Int32.ofNat k ∧ isW B L p (kA k)) ∨ (v = 0 ∧ (12 ≤ nc ∨ ∀ k, HdOk 1 k → ¬ isW B L p k))) (fun v5 hv5 => ?_) (fun j6 hj6 => So_jn0 ?_)
  · rcases hv5 with ⟨rfl, hn, ka, hk, rfl, hw⟩ | ⟨rfl, hn⟩
    · refine So.bind (must_re h 1) (fun M8 h8 => ?_)
      obtain ⟨p8, ⟨_, r8⟩ | ⟨z, _⟩⟩ := h8
      rotate_left
      · exact absurd z (by decide)
      obtain ⟨q1, q2, q3⟩ := kA_t ka hk
      have m8 : ML u 40 N M8 := p8.ml (Or.inr (by decide))
      rw [r8.2.2.2.1, if_pos rfl]
      refine So_nm ?_
      have e21 : mI M8 u 21 = Int32.ofNat nc := by rw [p8.2.1 21 (by decide)]; exact h21
      have e9 : (8 : Int32) * Int32.ofNat nc = Int32.ofNat (8 * nc) := nn_mul 8 nc
      rw [e21, e9, s1]
      refine So_nm ?_
      have c8 : ∀ k, mI M8 (u + 40) k = mI N (u + 40) k := fun k => by rw [(p8.1 (u + 40) (by omega) (by omega) (by omega) (by omega) (by omega)).1]
      refine loop_for 8 (by decide) (fun i K => ML u 40 N K ∧ RE B L u 1 K (tkE B L p) lv C ∧ mI K u 21 = Int32.ofNat (nc + 1) ∧ (∀ k, k < i → mI K (u + 40) (8 * nc + k) = 0) ∧ ∀ k, k < 8 * nc → mI K (u + 40) k = mI N (u + 40) k) (sI M8 u 21 (Int32.ofNat (nc + 1))) ⟨m8.tr ML_21, r8.m21, mI_e, fun k hk => absurd hk (by omega), fun k _ => by rw [mI_n1 (by omega)]; exact c8 k⟩ (fun K rec hI => ?_) (fun i K rec hi hI hr => ?_)
      · obtain ⟨a1, a2, a3, a4, a5⟩ := hI
        refine So.ite (fun _ => ?_) (fun hc => absurd hc (ge_self 8))
        rw [nn_ix (by omega)]
        refine So_gd (inb_nn (by omega) (by decide)) (So_nm ?_)
        have hfin := hg hn (kA ka) q2 q3 hw (sI K (u + 40) (8 * nc) (Int32.ofNat ka)) (a1.tr (ML_c (by decide))) (a2.mark (Or.inr rfl)) (by rw [mI_n1 (by omega)]; exact a3) (by rw [mI_e, q1]) (fun k k1 k2 => by
          rw [mI_n2 (by omega)]
          have := a4 (k - 8 * nc) (by omega)
          rw [show 8 * nc + (k - 8 * nc) = k by omega] at this; exact this) (fun k hk => by rw [mI_n2 (by omega)]; exact a5 k hk)
        rw [q1] at hfin
        exact hfin
      · obtain ⟨a1, a2, a3, a4, a5⟩ := hI
        refine So.ite (fun hc => absurd hc (nle hi (by decide))) (fun _ => ?_)
        rw [nn_add, nn_ix (by omega)]
        refine So_gd (inb_nn (by omega) (by decide)) (So_nm (So_nm (hr _ ⟨a1.tr (ML_c (by decide)), a2.mark (Or.inr rfl), by rw [mI_n1 (by omega)]; exact a3, fun k hk => ?_, fun k hk => by rw [mI_n2 (by omega)]; exact a5 k hk⟩)))
        by_cases z : k = i
        · rw [z, mI_e]
        · rw [mI_n2 (by omega)]; exact a4 k (by omega)
    · refine So.bind (must_re h 0) (fun M8 h8 => ?_)
      obtain ⟨p8, ⟨z, _⟩ | ⟨_, b8⟩⟩ := h8
      · exact absurd rfl z
      rw [b8.1, if_neg (by decide)]
      exact So.ok (hb hn M8 (p8.ml (Or.inr (by decide))) b8)
  · rcases hv1 with ⟨rfl, hno⟩ | ⟨k, hk, rfl, hw⟩
    · rw [if_pos rfl]
      refine hj6 _ (Or.inr ⟨rfl, Or.inr (fun k hk => ?_)⟩)
      rcases hk with ⟨z, _⟩ | ⟨_, z1, z2⟩
      · omega
      · obtain ⟨w1, w2⟩ := aK_t k z2 z1
        have := hno (aK k) w1
        rw [w2] at this; exact this
    · rw [if_neg (fun z => by
        have := congrArg Int32.toInt z
        rw [nn_int (by omega), show (-1 : Int32).toInt = -1 from rfl] at this; omega), h21]
      by_cases c12 : 12 ≤ nc
      · rw [if_pos (show (12 : Int32) ≤ Int32.ofNat nc from (nn_le (a := 12) (by omega) (by omega)).mpr c12)]
        exact hj6 _ (Or.inr ⟨rfl, Or.inl c12⟩)
      · rw [if_neg (show ¬ (12 : Int32) ≤ Int32.ofNat nc from nle (n := 12) (by omega) (by decide))]
        exact hj6 _ (Or.inl ⟨rfl, by omega, k, hk, rfl, hw⟩)
/-- what the reference holds of an order -/
def OGd (B : Nat → Nat) (L u : Nat) (N : Mem) (nc : Nat) (C : List (Nat × Nat)) (kind times p' lv' : Nat) (f1 f2 ft : Option Den) (N' : Mem) : Prop := ML u 40 N N' ∧ ∃ Y1 Y2 Yt, RE B L u 1 N' p' lv' (C ++ Y1 ++ Y2 ++ Yt) ∧ mI N' u 21 = Int32.ofNat (nc + 1) ∧ SgR 1 Y1 C.length f1 ∧ SgR 1 Y2 (C.length + Y1.length) f2 ∧ SgR 1 Yt (C.length + Y1.length + Y2.length) ft ∧ mI N' (u + 40) (8 * nc) = Int32.ofNat (aK kind) ∧ Cl2 u N' (8 * nc + 1) f1 C.length (C.length + Y1.length) ∧ Cl2 u N' (8 * nc + 3) f2 (C.length + Y1.length) (C.length + Y1.length + Y2.length) ∧ mI N' (u + 40) (8 * nc + 5) = Int32.ofNat (C.length + Y1.length + Y2.length) ∧ mI N' (u + 40) (8 * nc + 6) = Int32.ofNat (C.length + Y1.length + Y2.length + Yt.length) ∧ mI N' (u + 40) (8 * nc + 7) = Int32.ofNat times ∧ ∀ k, k < 8 * nc → mI N' (u + 40) k = mI N (u + 40) k
theorem ord_ok {B : Nat → Nat} {L u p lv nc kind times p1 lv1 p2 lv2 p3 p' lv' : Nat} {N : Mem} {C : List (Nat × Nat)} {f1 f2 ft : Option Den} (h : RE B L u 1 N p lv C) (h21 : mI N u 21 = Int32.ofNat nc) (hnc : nc < 12) (hk : 7 ≤ kind ∧ kind ≤ 10) (hw : isW B L p kind) (h1 : S1 B L 1 p lv kind p1 lv1 f1) (h2 : S2 B L 1 p1 lv1 kind p2 lv2 f2) (h3 : S3 B L 1 p2 times p3) (h4 : S4 B L 1 p3 lv2 p' lv' ft) : So (FX12_readOrder u N) (OGd B L u N nc C kind times p' lv' f1 f2 ft) := by
  refine ord_head h h21 (by omega) (fun hb => ?_) (fun _ kind' k7 k10 hw' N1 m1 r1 a21 c0 cz cc => ?_)
  · rcases hb with z | z
    · omega
    · exact absurd hw (z kind (Or.inr ⟨rfl, hk⟩))
  obtain rfl := isW_inj hw hw' (by omega) (by omega)
  obtain ⟨a4, _⟩ := aK_t kind hk.2 hk.1
  have e3 := (act_two a4).2.2
  have ha3 : aK kind = 3 ↔ kind = 9 := by unfold aK; split <;> omega
  unfold ordS
  refine So_jn1 ?_
  rcases h1 with ⟨z, rfl, rfl, rfl⟩ | ⟨n6, n9, f, rfl, hno, hS⟩
  · have k9 : kind = 9 := z.resolve_left (fun y => by rw [y] at k7; exact absurd k7 (by decide))
    rw [if_pos (e3.mpr (ha3.mpr k9))]
    refine (ordA_ok hnc hk r1 (by rw [cz _ (by omega) (by omega), cz _ (by omega) (by omega)]) h2 h3 h4).mono (fun N' hN => ?_)
    obtain ⟨b1, b2, b3, Y2, Yt, b4, b5, b6, b7, b8, b9, b10⟩ := hN
    refine ⟨m1.tr b1, [], Y2, Yt, by simpa using b4, by rw [b2]; exact a21, Or.inl ⟨rfl, rfl⟩, by simpa using b5, by simpa using b6, by rw [b3 _ (by omega)]; exact c0, Or.inl ⟨rfl, by rw [b3 _ (by omega), b3 _ (by omega), cz _ (by omega) (by omega), cz _ (by omega) (by omega)]⟩, by simpa using b7, by simpa using b8, by simpa using b9, b10, fun k hk => by rw [b3 k (by omega)]; exact cc k hk⟩
  · rw [if_neg (fun z => n9 (ha3.mp (e3.mp z))), s1]
    refine So.bind (readSum_ok (by omega) r1 ⟨hno, hS⟩) (fun M57 h57 => ?_)
    obtain ⟨d1, d2, d3, Y1, d4, d5, d6, d7⟩ := h57
    refine (ordA_ok hnc hk d4 (by rw [d3 _ (by omega), d3 _ (by omega), cz _ (by omega) (by omega), cz _ (by omega) (by omega)]) h2 h3 h4).mono (fun N' hN => ?_)
    obtain ⟨b1, b2, b3, Y2, Yt, b4, b5, b6, b7, b8, b9, b10⟩ := hN
    simp only [List.length_append] at b5 b6 b7 b8 b9
    refine ⟨(m1.tr d1).tr b1, Y1, Y2, Yt, b4, by rw [b2, d2]; exact a21, Or.inr ⟨f, rfl, d5⟩, b5, b6, by rw [b3 _ (by omega), d3 _ (by omega)]; exact c0, Or.inr ⟨by simp, by rw [b3 _ (by omega)]; exact d6, by rw [b3 _ (by omega)]; exact d7⟩, b7, b8, b9, b10, fun k hk => by rw [b3 k (by omega), d3 k (by omega)]; exact cc k hk⟩
theorem ord_bad {B : Nat → Nat} {L u p lv nc f : Nat} {N : Mem} {C : List (Nat × Nat)} (h : RE B L u 1 N p lv C) (h21 : mI N u 21 = Int32.ofNat nc) (hnc : nc ≤ 12) (hb : ClB B L 1 p lv nc f) : So (FX12_readOrder u N) (fun N' => ML u 40 N N' ∧ Bad u N' f) := by
  rcases hb with ⟨hb, rfl⟩ | ⟨hn, kind, hhd, hw, hb⟩
  · refine ord_head h h21 hnc (fun _ N' a b => ⟨a, b⟩) (fun hn kind k7 k10 hw => ?_)
    rcases hb with z | z
    · omega
    · exact absurd hw (z kind (Or.inr ⟨rfl, k7, k10⟩))
  · have hk : 7 ≤ kind ∧ kind ≤ 10 := by rcases hhd with ⟨z, _⟩ | ⟨_, z⟩ <;> omega
    refine ord_head h h21 hnc (fun hb => ?_) (fun _ kind' k7 k10 hw' N1 m1 r1 a21 c0 cz cc => ?_)
    · rcases hb with z | z
      · omega
      · exact absurd hw (z kind hhd)
    obtain rfl := isW_inj hw hw' (by omega) (by omega)
    obtain ⟨a4, _⟩ := aK_t kind hk.2 hk.1
    have e3 := (act_two a4).2.2
    have ha3 : aK kind = 3 ↔ kind = 9 := by unfold aK; split <;> omega
    unfold ordS
    refine So_jn1 ?_
    rcases hb with ⟨n6, n9, hF⟩ | ⟨p1, lv1, f1, h1, hb⟩
    · rw [if_neg (fun z => n9 (ha3.mp (e3.mp z))), s1]
      exact So.bind (readSum_F (by omega) r1 hF) (fun M57 h57 => (ordA_B hn a4 h57.2).mono (fun N' hN => ⟨(m1.tr h57.1).tr hN.1, hN.2⟩))
    · rcases h1 with ⟨z, rfl, rfl, rfl⟩ | ⟨n6, n9, g, rfl, hno, hS⟩
      · have k9 : kind = 9 := z.resolve_left (fun y => by rw [y] at k7; exact absurd k7 (by decide))
        rw [if_pos (e3.mpr (ha3.mpr k9))]
        exact (ordA_F hn hk r1 hb).mono (fun N' hN => ⟨m1.tr hN.1, hN.2⟩)
      · rw [if_neg (fun z => n9 (ha3.mp (e3.mp z))), s1]
        refine So.bind (readSum_ok (by omega) r1 ⟨hno, hS⟩) (fun M57 h57 => ?_)
        obtain ⟨d1, d2, d3, Y1, d4, d5, d6, d7⟩ := h57
        exact (ordA_F hn hk d4 hb).mono (fun N' hN => ⟨(m1.tr d1).tr hN.1, hN.2⟩)
