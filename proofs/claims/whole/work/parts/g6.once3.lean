/-! ===== an order, once: both ===== -/
def KOk (n : Nat) (I : Nat → CI) : Prop := n ≤ 12 ∧ ∀ i, i < n → (7 ≤ (I i).1 ∧ (I i).1 ≤ 10) ∧ (1 ≤ (I i).2.1 ∧ (I i).2.1 ≤ 20) ∧ ((I i).1 = 9 ↔ (I i).2.2.1 = none) ∧ (((I i).1 = 7 ∨ (I i).1 = 8) ↔ (I i).2.2.2.1 ≠ none)
theorem refF_neg {u i : Nat} {v : Int32} {M : Mem} (h : ¬ 0 ≤ v.toInt) : refF u (Int32.ofNat (8 * i)) v M = some (-3, M) := by
  unfold refF
  rw [if_neg (show ¬ (0 : Int32) ≤ v from fun z => h (by rw [Int32.le_iff_toInt_le] at z; exact z))]
theorem refF_pos {u i kind : Nat} {v : Int32} {M : Mem} (h : 0 ≤ v.toInt) (hi : i < 12) (hk : 7 ≤ kind ∧ kind ≤ 10) (hc : mI M (u + 40) (8 * i) = Int32.ofNat (aK kind)) : refF u (Int32.ofNat (8 * i)) v M = some (0, sI (sI M u 63 (if kind = 8 then v else mI M u 63)) u 62 (mI M u 62 + 1)) := by
  unfold refF
  have e2 : (Int32.ofNat (aK kind) = 2) ↔ kind = 8 := by
    obtain rfl | rfl | rfl | rfl : kind = 7 ∨ kind = 8 ∨ kind = 9 ∨ kind = 10 := by omega
    all_goals decide
  rw [if_pos (show (0 : Int32) ≤ v by rw [Int32.le_iff_toInt_le]; exact h), gp (inb_nn (by omega) (by decide)), jb1, nn_ix (by omega), hc]
  by_cases z : kind = 8
  · rw [if_neg (fun y => y (e2.mpr z))]
    show some ((0 : Int32), sI (sI M u 63 v) u 62 (mI (sI M u 63 v) u 62 + 1)) = _
    rw [if_pos z, mI_n2 (by decide)]
  · rw [if_pos (fun y => z (e2.mp y))]
    show some ((0 : Int32), sI (sI M u 63 (mI M u 63)) u 62 (mI (sI M u 63 (mI M u 63)) u 62 + 1)) = _
    rw [if_neg z, mI_n2 (by decide)]
theorem once {Λ : Lam} {t u T n len lr d i : Nat} {I : Nat → CI} {A B : Mem} (h : OT Λ t u T n len lr I A B d) (hK : KOk n I) (hi : i < n) : ∃ A' B', OFr t u A A' B B' ∧ ((∃ d', d' ≤ d + 1 ∧ OT Λ t u T n len lr I A' B' d' ∧ FX12_runOnce u (Int32.ofNat (8 * i)) B = some (0, B') ∧ ∀ (τ : Type) (J Z : Mem → Option τ), clO t (t + 173) (Int32.ofNat i) (Int32.ofNat (I i).1) A J Z = J A') ∨ (JT Λ t u T A' B' ∧ FX12_runOnce u (Int32.ofNat (8 * i)) B = some (-3, B') ∧ ∀ (τ : Type) (J Z : Mem → Option τ), clO t (t + 173) (Int32.ofNat i) (Int32.ofNat (I i).1) A J Z = Z A')) := by
  obtain ⟨hJ, hX, hl, hO, h1, h62, h2⟩ := h
  have hu := hJ.1
  have hT := hJ.2.1
  obtain ⟨hn, hki⟩ := hK
  obtain ⟨hk, _, hk1, hk2⟩ := hki i hi
  have hB := hX.2.2.2.2.2.2.2 i hi
  -- the class tells the table, fits the law
  obtain ⟨M7, a7, e7, w7⟩ := tellTable_c (dn := mI B u 62) (lt := mI B u 63) hJ.2.2.1.1 (by rw [h1, h62]) h2
  have J7 : JT Λ t u T M7 B := hJ.cls (fun q hq => e7 q (by omega))
  obtain ⟨nf, If, N, aN, eN, JN, fN⟩ := J7.fit
  have F0 : Eo (OC t) A N := (e7.up (fun q hq => by unfold OC; omega)).tr (eN.up (fun q hq => by unfold OC; omega))
  have XN : TXT N (t + 173) n len I := hX.keep (F0 _ (by unfold OC CAc; omega)) (F0 _ (by unfold OC CAc; omega))
  have tN : tlD (mI N (t + 176 + 1)) = tlO (mI B (u + 2)) (mI B u 62) (mI B u 63) := by
    rw [show mI N (t + 176 + 1) = mI M7 (t + 177) from (eN (t + 177) (by omega)).1]
    exact tl_cg w7
  -- is it asked for
  obtain ⟨⟨r16, M15⟩, a15, e15, v15⟩ := isSo_c (t := t + 176) (c := t + 173) ⟨by omega, by omega⟩ XN hi
  have e15 : SmE (t + 176) N M15 := e15
  have v15 : r16 = if dT (I i).2.2.2.2 (tlD (mI N (t + 176 + 1))) = true then 1 else 0 := v15
  rw [tN] at v15
  have sm : ∀ {X Y : Mem}, SmE (t + 176) X Y → Eo (OC t) X Y := fun e => e.1.up (fun q hq => by unfold OC; omega)
  have smJ : ∀ {X Y B0 : Mem}, SmE (t + 176) X Y → JT Λ t u T X B0 → JT Λ t u T Y B0 := fun e j => j.cls (fun q hq => e.1 q (by omega))
  have smF : ∀ {X Y B0 : Mem}, SmE (t + 176) X Y → FitW t u nf If X B0 → FitW t u nf If Y B0 := fun e f => by
    obtain ⟨f1, f2, f3⟩ := f
    exact ⟨by rw [(e.1 (t + 179) (by omega)).1]; exact f1, f2.keep (fun q a b => e.1 q (by omega)), f3⟩
  have F15 : Eo (OC t) A M15 := F0.tr (sm e15)
  have w177 : ∀ {X : Mem}, SmE (t + 176) N X → mI X (t + 177) 1 = Int32.ofNat d ∧ mI X (t + 177) 2 = mI B u 63 := fun {X} e => by
    have z : mI X (t + 177) = mI M7 (t + 177) := by rw [show mI X (t + 177) = mI N (t + 177) from (e.1 (t + 177) (by omega)).1, (eN (t + 177) (by omega)).1]
    rw [z, w7 1 (by decide), w7 2 (by decide)]
    exact ⟨by show mI B u 62 = _; exact h62, rfl⟩
  obtain ⟨B1, o1, hr⟩ := runOnce_r (u := u) hJ.2.2.2.2.2 hO hl hi hn hk hB
  have b20 : mI B1 u 20 = 0 := by rw [o1.2 20 (by decide) (by decide)]; exact hJ.2.2.2.2.2
  have jtB : ∀ {X : Mem}, JT Λ t u T X B → JT Λ t u T X B1 := fun j => j.ref (o1.1 _ (by omega)).1 (o1.1 _ (by omega)).1 (o1.1 _ (by omega)).1 (o1.2 8 (by decide) (by decide)) (o1.2 20 (by decide) (by decide))
  have FB : ∀ {X : Mem}, Eo (OC t) A X → OFr t u A X B B1 := fun e => (OFr.c e).tr (OFr.r o1.1 (fun k hk => o1.2 k (fun z => hk (by rw [z]; decide)) (fun z => hk (by rw [z]; decide))))
  have OB : TxO (mI B1 (u + 11)) (mI B1 (u + 12)) (mI B1 (u + 40)) lr n I := by
    rw [show mI B1 (u + 11) = mI B (u + 11) from (o1.1 _ (by omega)).1, show mI B1 (u + 12) = mI B (u + 12) from (o1.1 _ (by omega)).1, show mI B1 (u + 40) = mI B (u + 40) from (o1.1 _ (by omega)).1]
    exact hO
  have cl : ∀ (τ : Type) (J Z : Mem → Option τ), clO t (t + 173) (Int32.ofNat i) (Int32.ofNat (I i).1) A J Z = if ¬ r16 = 0 then bdM (FX7_workBoth (t + 176) (t + 173) (Int32.ofNat i) M15) fun r23 M22 => if ¬ r23 = 0 then bdM (actC t (I i).1 (mI M22 (t + 176) 2) (mI M22 (t + 176) 3) M22) fun v24 M25 => (if 0 ≤ v24 then (FX7_told (t + 176) 1 M25).bind fun r30 => (FX7_tell (t + 176) 1 (r30 + 1) M25).bind fun M31 => if ¬ Int32.ofNat (I i).1 = 8 then J M31 else (FX7_tell (t + 176) 2 v24 M31).bind fun M33 => J M33 else Z M25) else Z M22 else J M15 := fun τ J Z => by
    unfold clO
    rw [ob a7, ob aN, bo a15, jb1]
    by_cases z : r16 = 0
    · rw [if_neg (fun y => y z), if_neg (fun y => y z)]
    · rw [if_pos z, if_pos z]
      refine congrArg (bdM _) (funext fun r23 => funext fun M22 => ?_)
      by_cases y : r23 = 0
      · rw [if_neg (fun x => x y), if_neg (fun x => x y)]
      · rw [if_pos y, if_pos y, jb2, sw_c hk]
  rcases hr with ⟨hT0, e⟩ | ⟨hT1, hno, e⟩ | ⟨hT1, v1, v2, x, y, q1, q2, qx, qy, e⟩
  · -- not so
    refine ⟨M15, B1, FB F15, Or.inl ⟨d, by omega, ⟨jtB (smJ e15 JN), XN.keep (e15.1 _ (by omega)) (e15.1 _ (by omega)), hl, OB, (w177 e15).1, by rw [o1.2 62 (by decide) (by decide)]; exact h62, by rw [o1.2 63 (by decide) (by decide)]; exact (w177 e15).2⟩, e, fun τ J Z => ?_⟩⟩
    rw [cl, v15, hT0, if_neg (show ¬ (false = true) by decide), if_neg (fun z => z rfl)]
  · -- broken
    obtain ⟨⟨r23, M22⟩, a22, e22, v22⟩ := workBoth_c (t := t + 176) (c := t + 173) ⟨by omega, by omega⟩ ⟨by omega, by omega⟩ (XN.keep (e15.1 _ (by omega)) (e15.1 _ (by omega))) hi
    have e22 : SmE (t + 176) M15 M22 := e22
    have t15 : tlD (mI M15 (t + 176 + 1)) = tlO (mI B (u + 2)) (mI B u 62) (mI B u 63) := by
      rw [(e15.1 (t + 176 + 1) (by omega)).1]; exact tN
    rw [t15] at v22
    have z0 : r23 = 0 := by
      rcases v22 with ⟨v1, v2, y1, y2, _⟩ | ⟨_, y⟩
      · rcases hno with z | z
        · rw [z] at y1; cases y1
        · rw [z] at y2; cases y2
      · exact y
    refine ⟨M22, B1, FB (F15.tr (sm e22)), Or.inr ⟨jtB (smJ e22 (smJ e15 JN)), e, fun τ J Z => ?_⟩⟩
    rw [cl, v15, hT1, if_pos rfl, if_pos (show ¬ (1 : Int32) = 0 by decide), bo a22, z0, if_neg (fun z => z rfl)]
  · obtain ⟨⟨r23, M22⟩, a22, e22, v22⟩ := workBoth_c (t := t + 176) (c := t + 173) ⟨by omega, by omega⟩ ⟨by omega, by omega⟩ (XN.keep (e15.1 _ (by omega)) (e15.1 _ (by omega))) hi
    have e22 : SmE (t + 176) M15 M22 := e22
    have t15 : tlD (mI M15 (t + 176 + 1)) = tlO (mI B (u + 2)) (mI B u 62) (mI B u 63) := by
      rw [(e15.1 (t + 176 + 1) (by omega)).1]; exact tN
    rw [t15] at v22
    obtain ⟨z1, p1, p2⟩ : r23 = 1 ∧ mI M22 (t + 176) 2 = v1.toInt32 ∧ mI M22 (t + 176) 3 = v2.toInt32 := by
      rcases v22 with ⟨w1, w2, y1, y2, y3, y4, y5⟩ | ⟨z | z, _⟩
      · rw [q1] at y1; rw [q2] at y2
        obtain rfl := Option.some.inj y1
        obtain rfl := Option.some.inj y2
        exact ⟨y3, y4, y5⟩
      · rw [q1] at z; cases z
      · rw [q2] at z; cases z
    have e2 : SmE (t + 176) N M22 := e15.tr e22
    have J22 : JT Λ t u T M22 B1 := jtB (smJ e22 (smJ e15 JN))
    have f22 : FitW t u nf If M22 B1 := (smF e22 (smF e15 fN)).ref (o1.1 _ (by omega)).1
    obtain ⟨v, A2, B2, x1, x2, xE, xJ, xv⟩ := acts (kind := (I i).1) J22 f22 v1.toInt32 v2.toInt32 y x (fun z => qx (fun w => z (hk1.mpr w))) (fun z => qy (hk2.mp z))
    have F2 : OFr t u A A2 B B2 := (FB (F15.tr (sm e22))).tr xE.of
    have cl2 : ∀ (τ : Type) (J Z : Mem → Option τ), clO t (t + 173) (Int32.ofNat i) (Int32.ofNat (I i).1) A J Z = (if 0 ≤ v then (FX7_told (t + 176) 1 A2).bind fun r30 => (FX7_tell (t + 176) 1 (r30 + 1) A2).bind fun M31 => if ¬ Int32.ofNat (I i).1 = 8 then J M31 else (FX7_tell (t + 176) 2 v M31).bind fun M33 => J M33 else Z A2) := fun τ J Z => by
      rw [cl, v15, hT1, if_pos rfl, if_pos (show ¬ (1 : Int32) = 0 by decide), bo a22, z1, if_pos (show ¬ (1 : Int32) = 0 by decide), p1, p2, bo x1]
    have k177 : mI A2 (t + 177) = mI M22 (t + 177) := (xE.1 (t + 177) (by unfold CAc; omega)).1
    by_cases hv : 0 ≤ v.toInt
    · have c40 : mI B2 (u + 40) = mI B (u + 40) := by rw [(xE.2.1 (u + 40) (by unfold RAc; omega)).1, (o1.1 (u + 40) (by omega)).1]
      obtain ⟨_, _, _, _, c0, _⟩ := hO i hi
      have rf := refF_pos (u := u) (i := i) (M := B2) hv (by omega) hk (by rw [c40]; exact c0)
      have b62 : mI B2 u 62 = Int32.ofNat d := by rw [xE.2.2.1 62 (by decide) (by decide) (by decide), o1.2 62 (by decide) (by decide)]; exact h62
      have b63 : mI B2 u 63 = mI B u 63 := by rw [xE.2.2.1 63 (by decide) (by decide) (by decide), o1.2 63 (by decide) (by decide)]
      generalize hA3 : (if (I i).1 = 8 then sI (sI A2 (t + 177) 1 (Int32.ofNat (d + 1))) (t + 177) 2 v else sI A2 (t + 177) 1 (Int32.ofNat (d + 1))) = A3
      have E3 : Eo (fun q => q = t + 177) A2 A3 := by
        rw [← hA3]
        split
        · exact (Eo_sI (P := fun q => q = t + 177) rfl).tr (Eo_sI rfl)
        · exact Eo_sI rfl
      have g1 : mI A3 (t + 177) 1 = Int32.ofNat (d + 1) := by
        rw [← hA3]; split
        · rw [mI_n2 (by decide), mI_e]
        · rw [mI_e]
      have g2 : mI A3 (t + 177) 2 = if (I i).1 = 8 then v else mI B u 63 := by
        rw [← hA3]; split
        · rw [mI_e]
        · rw [mI_n2 (by decide), k177]; exact (w177 e2).2
      generalize hB3 : sI (sI B2 u 63 (if (I i).1 = 8 then v else mI B2 u 63)) u 62 (mI B2 u 62 + 1) = B3 at rf
      have EB3 : Eo (fun q => q = u) B2 B3 := by rw [← hB3]; exact (Eo_sI (P := fun q => q = u) rfl).tr (Eo_sI rfl)
      have u3 : ∀ k, k ≠ 62 → k ≠ 63 → mI B3 u k = mI B2 u k := fun k a b => by rw [← hB3, mI_n2 a, mI_n2 b]
      have u62 : mI B3 u 62 = Int32.ofNat (d + 1) := by rw [← hB3, mI_e, b62]; exact nn_add d 1
      have u63 : mI B3 u 63 = if (I i).1 = 8 then v else mI B u 63 := by rw [← hB3, mI_n2 (by decide), mI_e, b63]
      have J3 : JT Λ t u T A3 B3 := (xJ.cls (fun q hq => E3 q (by omega))).ref (EB3 _ (by omega)).1 (EB3 _ (by omega)).1 (EB3 _ (by omega)).1 (u3 8 (by decide) (by decide)) (u3 20 (by decide) (by decide))
      have F3 : OFr t u A2 A3 B2 B3 := (OFr.c (E3.up (fun q hq => by unfold OC; omega))).tr (OFr.r (EB3.up (fun q hq => Or.inl hq)) (fun k hk => u3 k (fun z => hk (by rw [z]; decide)) (fun z => hk (by rw [z]; decide))))
      have F23 : Eo (OC t) A A3 := F2.1.tr F3.1
      have eB : ∀ q, q = u + 11 ∨ q = u + 12 ∨ q = u + 40 → True := fun _ _ => trivial
      refine ⟨A3, B3, F2.tr F3, Or.inl ⟨d + 1, Nat.le_refl _, ⟨J3, hX.keep (F23 _ (by unfold OC CAc; omega)) (F23 _ (by unfold OC CAc; omega)), hl, ?_, g1, u62, by rw [g2, u63]⟩, ?_, fun τ J Z => ?_⟩⟩
      · have w : ∀ q, q = u + 11 ∨ q = u + 12 ∨ q = u + 40 → mI B3 q = mI B1 q := fun q hq => by
          rw [(EB3 q (by omega)).1, (xE.2.1 q (by unfold RAc; omega)).1]
        rw [w (u + 11) (by omega), w (u + 12) (by omega), w (u + 40) (by omega)]; exact OB
      · rw [e, bo x2]; exact rf
      · rw [cl2, ← hA3]
        exact clO_act (Λ := Λ) (u := u) (T := T) (n := n) (len := len) (lr := lr) (I := I) (B' := B) hk hv (by rw [k177]; exact (w177 e2).1)
    · refine ⟨A2, B2, F2, Or.inr ⟨xJ, ?_, fun τ J Z => ?_⟩⟩
      · rw [e, bo x2]; exact refF_neg hv
      · rw [cl2, if_neg (show ¬ (0 : Int32) ≤ v from fun z => hv (by rw [Int32.le_iff_toInt_le] at z; exact z))]
