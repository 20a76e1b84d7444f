/-! ===== going on to the next token: the class ===== -/
theorem So_jn0C {τ : Type} {Q : τ → Prop} {k : Option τ} {b : Option τ → Option τ} (C : Prop) (hk : C → So k Q) (hb : ∀ j, (C → So j Q) → So (b j) Q) : So (jn0 k b) Q := hb k hk
theorem tkS_fix {B : Nat → Nat} {L q p : Nat} (h : scan (fun i => decide (B i = 32)) (L - p) p = tkS B L q) (hp : L ≤ p ∨ B p ≠ 32) : p = tkS B L q := by
  rw [← h]
  rcases hp with c | c
  · rw [scan_end _ c]
  · rw [scan_no _ (by simpa using c)]
theorem adv_end {B : Nat → Nat} {L h q s e k : Nat} {v : Int32} {M N : Mem} (h1 : tkS B L q = s) (h2 : tkE B L q = e) (h3 : tkK B L q = k) (h4 : k ≠ 0 → tkV B L q = v) (m6 : mI N h 6 = Int32.ofNat s) (m7 : mI N h 7 = Int32.ofNat e) (m8 : mI N h 8 = Int32.ofNat k) (m9 : k ≠ 0 → mI N h 9 = v) (hA : AdE h M N) : So (some ((1 : Int32), N)) (fun r => r.1 = 1 ∧ AdE h M r.2 ∧ TkC B L h r.2 q) := by
  refine So.ok ⟨rfl, hA, ?_, ?_, ?_, fun c => ?_⟩
  · rw [h1]; exact m6
  · rw [h2]; exact m7
  · rw [h3]; exact m8
  · rw [h4 (by rw [← h3]; exact c)]; exact m9 (by rw [← h3]; exact c)
theorem advance_so {B : Nat → Nat} {L h q : Nat} {M : Mem} (T : TpC B L h M) (h7 : mI M h 7 = Int32.ofNat q) (hq : q ≤ L) : So (FX5_advance h M) (fun r => r.1 = 1 ∧ AdE h M r.2 ∧ TkC B L h r.2 q) := by
  have hL := T.1
  unfold FX5_advance
  refine So_nm ?_
  rw [h7]
  refine So_wl1 (fun N => ∃ p, q ≤ p ∧ p ≤ L ∧ N = sI M h 6 (Int32.ofNat p) ∧ scan (fun i => decide (B i = 32)) (L - p) p = tkS B L q) (fun N => L - ix (mI N h 6)) ?_ fuel _ ⟨q, Nat.le_refl _, hq, rfl, rfl⟩ (by unfold fuel; omega)
  rintro N rec ⟨p, hp1, hp2, hN, hsc⟩ hr
  have A1 : AdE h M N := by rw [hN]; exact AdE_s 6 _ (by decide)
  have T1 := T.keep A1
  have n2 := T1.2.1
  have n6 : mI N h 6 = Int32.ofNat p := by rw [hN, mI_sI, if_pos ⟨rfl, rfl⟩]
  rw [n2, n6]
  refine So_jn0C (p = tkS B L q) (fun hps => ?_) (fun j5 hj5 => ?_)
  · by_cases cL : p < L
    · rw [if_pos ((nn_lt (by omega) (by omega)).mpr cL)]
      refine So_nm ?_
      rw [s1]
      generalize hM7 : sI N h 7 (Int32.ofNat (p + 1)) = M7
      have A7 : AdE h M M7 := by rw [← hM7]; exact A1.tr (AdE_s 7 _ (by decide))
      have T7 := T.keep A7
      have a2 := T7.2.1
      have a6 : mI M7 h 6 = Int32.ofNat p := by rw [← hM7, mI_sI, if_neg (by simp), n6]
      have a7 : mI M7 h 7 = Int32.ofNat (p + 1) := by rw [← hM7, mI_sI, if_pos ⟨rfl, rfl⟩]
      obtain ⟨hbp, hbp2⟩ := T7.2.2 p cL
      have hcL : ¬ L ≤ tkS B L q := by omega
      rw [a6, nn_ix (by omega)]
      refine So_gd (inb_nn (by omega) (by decide)) ?_
      rw [hbp2, lt_nn hbp]
      refine So.bindE rfl (So_jn1 ?_)
      by_cases c1 : isLt (B p) = true
      · rw [if_pos c1, if_neg (by decide)]
        have hE : tkE B L q = scan (fun i => isLt (B i)) (L - (p + 1)) (p + 1) := by
          unfold tkE
          rw [if_neg hcL, ← hps, if_pos c1, scan_yes (fun i => isLt (B i)) cL c1]
        have hK : tkK B L q = 1 := by unfold tkK; rw [if_neg hcL, ← hps, if_pos c1]
        refine So_wl1 (fun K => ∃ e, p < e ∧ e ≤ L ∧ K = sI M7 h 7 (Int32.ofNat e) ∧ scan (fun i => isLt (B i)) (L - e) e = tkE B L q) (fun K => L - ix (mI K h 7)) ?_ fuel _ ⟨p + 1, by omega, by omega, (sI_id _ _ _ _ a7).symm, hE.symm⟩ (by unfold fuel; omega)
        rintro K rec2 ⟨e, he1, he2, hKe, hse⟩ hr2
        have A8 : AdE h M K := by rw [hKe]; exact A7.tr (AdE_s 7 _ (by decide))
        have T8 := T.keep A8
        have b2 := T8.2.1
        have b6 : mI K h 6 = Int32.ofNat p := by rw [hKe, mI_sI, if_neg (by simp), a6]
        have b7 : mI K h 7 = Int32.ofNat e := by rw [hKe, mI_sI, if_pos ⟨rfl, rfl⟩]
        rw [b2, b7]
        refine So_jn0C (e = tkE B L q) (fun hee => So_nm ?_) (fun j hj => ?_)
        · have A9 : AdE h M (sI K h 8 1) := A8.tr (AdE_s 8 _ (by decide))
          rw [wordAt_so (s := p) (e := e) (T.keep A9) (by rw [mI_sI, if_neg (by simp), b6]) (by rw [mI_sI, if_neg (by simp), b7]) (by omega) he2]
          refine So.bindE rfl (So_nm ?_)
          refine adv_end (s := p) (e := e) (k := 1) (v := wIx ((List.range (e - p)).map (fun i => B (p + i)))) hps.symm hee.symm hK (fun _ => ?_) ?_ ?_ ?_ (fun _ => ?_) (A9.tr (AdE_s 9 _ (by decide)))
          · unfold tkV tkW; rw [if_pos hK, ← hps, ← hee]
          · rw [mI_sI, if_neg (by simp), mI_sI, if_neg (by simp), b6]
          · rw [mI_sI, if_neg (by simp), mI_sI, if_neg (by simp), b7]
          · rw [mI_sI, if_neg (by simp), mI_sI, if_pos ⟨rfl, rfl⟩]; rfl
          · rw [mI_sI, if_pos ⟨rfl, rfl⟩]
        · by_cases c : e < L
          · rw [if_neg (nle c (by omega)), nn_ix (by omega)]
            refine So_gd (inb_nn (by omega) (by decide)) ?_
            obtain ⟨hbe, hbe2⟩ := T8.2.2 e c
            rw [hbe2, lt_nn hbe]
            refine So.bindE rfl ?_
            by_cases c2 : isLt (B e) = true
            · rw [if_pos c2, if_neg (by decide)]
              refine So_nm ?_
              rw [s1]
              refine hr2 _ ⟨e + 1, by omega, by omega, by rw [hKe, sI_sI], by rw [← hse, scan_yes (fun i => isLt (B i)) c c2]⟩ ?_
              rw [mI_sI, if_pos ⟨rfl, rfl⟩, b7, nn_ix (by omega), nn_ix (by omega)]; omega
            · rw [if_neg c2, if_pos rfl]
              exact hj (by rw [← hse, scan_no (fun i => isLt (B i)) (by simpa using c2)])
          · rw [if_pos ((nn_le (by omega) (by omega)).mpr (by omega))]
            exact hj (by rw [← hse, scan_end _ (by omega)])
      · rw [if_neg c1, if_pos rfl, dg_nn hbp]
        refine So_gd (inb_nn (by omega) (by decide)) (So.bindE rfl ?_)
        by_cases c3 : isDg (B p) = true
        · rw [if_pos c3, if_neg (by decide)]
          have hE : tkE B L q = scan (fun i => isDg (B i)) (L - (p + 1)) (p + 1) := by
            unfold tkE
            rw [if_neg hcL, ← hps, if_neg c1, if_pos c3, scan_yes (fun i => isDg (B i)) cL c3]
          have hE2 : tkE B L q = scan (fun i => isDg (B i)) (L - p) p := by rw [hE, ← scan_yes (fun i => isDg (B i)) cL c3]
          have hK : tkK B L q = 2 := by unfold tkK; rw [if_neg hcL, ← hps, if_neg c1, if_pos c3]
          refine So_wl1 (fun K => ∃ e, p < e ∧ e ≤ L ∧ K = sI M7 h 7 (Int32.ofNat e) ∧ scan (fun i => isDg (B i)) (L - e) e = tkE B L q) (fun K => L - ix (mI K h 7)) ?_ fuel _ ⟨p + 1, by omega, by omega, (sI_id _ _ _ _ a7).symm, hE.symm⟩ (by unfold fuel; omega)
          rintro K rec2 ⟨e, he1, he2, hKe, hse⟩ hr2
          have A8 : AdE h M K := by rw [hKe]; exact A7.tr (AdE_s 7 _ (by decide))
          have T8 := T.keep A8
          have b2 := T8.2.1
          have b6 : mI K h 6 = Int32.ofNat p := by rw [hKe, mI_sI, if_neg (by simp), a6]
          have b7 : mI K h 7 = Int32.ofNat e := by rw [hKe, mI_sI, if_pos ⟨rfl, rfl⟩]
          rw [b2, b7]
          refine So_jn0C (e = tkE B L q) (fun hee => So_nm ?_) (fun j hj => ?_)
          · have A9 : AdE h M (sI K h 8 2) := A8.tr (AdE_s 8 _ (by decide))
            rw [numberAt_so (s := p) (e := e) (T.keep A9) (by rw [mI_sI, if_neg (by simp), b6]) (by rw [mI_sI, if_neg (by simp), b7]) (by omega) he2 (fun i hi1 hi2 => scan_all (fun i => isDg (B i)) (L - p) p i hi1 (by rw [← hE2, ← hee]; exact hi2))]
            refine So.bindE rfl (So_nm ?_)
            refine adv_end (s := p) (e := e) (k := 2) (v := Int32.ofNat (min 1001 (nvP B (e - p) p 0))) hps.symm hee.symm hK (fun _ => ?_) ?_ ?_ ?_ (fun _ => ?_) (A9.tr (AdE_s 9 _ (by decide)))
            · unfold tkV tkN; rw [if_neg (by omega), if_pos hK, ← hps, ← hee]
            · rw [mI_sI, if_neg (by simp), mI_sI, if_neg (by simp), b6]
            · rw [mI_sI, if_neg (by simp), mI_sI, if_neg (by simp), b7]
            · rw [mI_sI, if_neg (by simp), mI_sI, if_pos ⟨rfl, rfl⟩]; rfl
            · rw [mI_sI, if_pos ⟨rfl, rfl⟩]
          · by_cases c : e < L
            · rw [if_neg (nle c (by omega)), nn_ix (by omega)]
              refine So_gd (inb_nn (by omega) (by decide)) ?_
              obtain ⟨hbe, hbe2⟩ := T8.2.2 e c
              rw [hbe2, dg_nn hbe]
              refine So.bindE rfl ?_
              by_cases c2 : isDg (B e) = true
              · rw [if_pos c2, if_neg (by decide)]
                refine So_nm ?_
                rw [s1]
                refine hr2 _ ⟨e + 1, by omega, by omega, by rw [hKe, sI_sI], by rw [← hse, scan_yes (fun i => isDg (B i)) c c2]⟩ ?_
                rw [mI_sI, if_pos ⟨rfl, rfl⟩, b7, nn_ix (by omega), nn_ix (by omega)]; omega
              · rw [if_neg c2, if_pos rfl]
                exact hj (by rw [← hse, scan_no (fun i => isDg (B i)) (by simpa using c2)])
            · rw [if_pos ((nn_le (by omega) (by omega)).mpr (by omega))]
              exact hj (by rw [← hse, scan_end _ (by omega)])
        · rw [if_neg c3, if_pos rfl]
          have hK : tkK B L q = 3 := by unfold tkK; rw [if_neg hcL, ← hps, if_neg c1, if_neg c3]
          have hE : tkE B L q = p + 1 := by unfold tkE; rw [if_neg hcL, ← hps, if_neg c1, if_neg c3]
          have d6 : mI (sI M7 h 8 3) h 6 = Int32.ofNat p := by rw [mI_sI, if_neg (by simp), a6]
          refine So_nm ?_
          rw [d6, nn_ix (by omega)]
          refine So_gd (inb_nn (by omega) (by decide)) (So_nm ?_)
          refine adv_end (s := p) (e := p + 1) (k := 3) (v := Int32.ofNat (B p)) hps.symm hE hK (fun _ => ?_) ?_ ?_ ?_ (fun _ => ?_) ((A7.tr (AdE_s 8 _ (by decide))).tr (AdE_s 9 _ (by decide)))
          · unfold tkV; rw [if_neg (by omega), if_neg (by omega), ← hps]
          · rw [mI_sI, if_neg (by simp), d6]
          · rw [mI_sI, if_neg (by simp), mI_sI, if_neg (by simp), a7]
          · rw [mI_sI, if_neg (by simp), mI_sI, if_pos ⟨rfl, rfl⟩]; rfl
          · rw [mI_sI, if_pos ⟨rfl, rfl⟩, mI_sI, if_neg (by omega), hbp2]
    · have hpL : p = L := by omega
      rw [if_neg (fun z => cL ((nn_lt (by omega) (by omega)).mp z))]
      have hLL : L ≤ tkS B L q := by omega
      refine So_nm (So_nm (So_nm ?_))
      have e2 : mI (sI N h 7 (Int32.ofNat L)) h 2 = Int32.ofNat L := by rw [mI_sI, if_neg (by simp), n2]
      rw [e2]
      refine adv_end (s := L) (e := L) (k := 0) (v := 0) (by omega) (by unfold tkE; rw [if_pos hLL]) (by unfold tkK; rw [if_pos hLL]) (fun c => absurd rfl c) ?_ ?_ ?_ (fun c => absurd rfl c) (((A1.tr (AdE_s 7 _ (by decide))).tr (AdE_s 6 _ (by decide))).tr (AdE_s 8 _ (by decide)))
      · rw [mI_sI, if_neg (by simp), mI_sI, if_pos ⟨rfl, rfl⟩]
      · rw [mI_sI, if_neg (by simp), mI_sI, if_neg (by simp), mI_sI, if_pos ⟨rfl, rfl⟩]
      · rw [mI_sI, if_pos ⟨rfl, rfl⟩]; rfl
  · by_cases cL : p < L
    · rw [if_neg (nle cL (by omega)), nn_ix (by omega)]
      refine So_gd (inb_nn (by omega) (by decide)) ?_
      obtain ⟨hbp, hbp2⟩ := T1.2.2 p cL
      rw [hbp2]
      by_cases c : B p = 32
      · rw [if_neg (fun z => z (by rw [c]; rfl))]
        refine So_nm ?_
        rw [s1]
        refine hr _ ⟨p + 1, by omega, by omega, by rw [hN, sI_sI], by rw [← hsc, scan_yes (fun i => decide (B i = 32)) cL (by simpa using c)]⟩ ?_
        rw [mI_sI, if_pos ⟨rfl, rfl⟩, n6, nn_ix (by omega), nn_ix (by omega)]; omega
      · rw [if_pos (show ¬ Int32.ofNat (B p) = 32 from fun z => c ((nn_eq (b := 32) (by omega) (by omega)).mp z))]
        exact hj5 (tkS_fix hsc (Or.inr c))
    · rw [if_pos ((nn_le (by omega) (by omega)).mpr (by omega))]
      exact hj5 (tkS_fix hsc (Or.inl (by omega)))
