/-! ===== an order, once: the reference ===== -/
theorem sum_at {u at' b1 b2 : Nat} {M : Mem} {r : Nat → Int32} {dn lt : Int32} {f : Option Den} (ha : at' + 1 < 96) (h20 : mI M u 20 = 0) (h65 : mI M u 65 = 0) (hN : NowM u M r dn lt) (hc : (f = none ∧ mI M (u + 40) at' = mI M (u + 40) (at' + 1)) ∨ (f ≠ none ∧ mI M (u + 40) at' = Int32.ofNat b1 ∧ mI M (u + 40) (at' + 1) = Int32.ofNat b2)) (hb : b2 ≤ 400) (hs : sgR 1 (mI M (u + 11)) (mI M (u + 12)) b1 b2 f) : ∃ x N, FX12_sumOf u (Int32.ofNat at') M = some (x, N) ∧ SoE u M N ∧ ((dV f (tlO r dn lt) = none ∧ mI N u 65 = 1) ∨ ∃ v, dV f (tlO r dn lt) = some v ∧ mI N u 65 = 0 ∧ (f ≠ none → x = v.toInt32)) := by
  rcases hc with ⟨rfl, z⟩ | ⟨z, c1, c2⟩
  · exact ⟨_, _, sumOf_no ha (Or.inr z), SoE.rf, Or.inr ⟨0, rfl, h65, fun y => absurd rfl y⟩⟩
  · cases hf : f with
    | none => exact absurd hf z
    | some g =>
      rw [hf] at hs
      obtain ⟨⟨x, N⟩, e, e1, e2⟩ := sumOf_r ha h20 h65 hN c1 c2 hb hs
      refine ⟨x, N, e, e1, ?_⟩
      rcases e2 with e2 | ⟨v, e2, e3, e4⟩
      · exact Or.inl e2
      · exact Or.inr ⟨v, e2, e3, fun _ => e4⟩
def refF (t : Nat) (p1 r29 : Int32) (M28 : Mem) : Option (Int32 × Mem) := if 0 ≤ r29 then gd (inb p1 96) <| jn1 (fun (v32 : Int32) => nm (sI M28 t 63 v32) fun M35 => nm (sI M35 t 62 ((mI M35 t 62) + 1)) fun M36 => some (0, M36)) fun j33 => if ¬ (mI M28 (t + 40) (ix p1)) = 2 then j33 (mI M28 t 63) else j33 r29 else some ((-3), M28)
def O1E (u : Nat) (M N : Mem) : Prop := Eo (fun q => q = u ∨ q = u + 19 ∨ q = u + 20) M N ∧ ∀ k, k ≠ 38 → k ≠ 65 → mI N u k = mI M u k
theorem SoE.o1 {u : Nat} {M N K : Mem} (h : O1E u M N) (e : SoE u N K) : O1E u M K := ⟨h.1.tr (e.1.up (fun q hq => by omega)), fun k a b => (e.2 k a b).trans (h.2 k a b)⟩
theorem runOnce_r {u n lr i : Nat} {B : Mem} {I : Nat → CI} (h20 : mI B u 20 = 0) (hX : TxO (mI B (u + 11)) (mI B (u + 12)) (mI B (u + 40)) lr n I) (hl : lr ≤ 400) (hi : i < n) (hn : n ≤ 12) (hk : 7 ≤ (I i).1 ∧ (I i).1 ≤ 10) (hB : TBO (I i).2.2.2.2) : ∃ B1, O1E u B B1 ∧ ((dT (I i).2.2.2.2 (tlO (mI B (u + 2)) (mI B u 62) (mI B u 63)) = false ∧ FX12_runOnce u (Int32.ofNat (8 * i)) B = some (0, B1)) ∨ (dT (I i).2.2.2.2 (tlO (mI B (u + 2)) (mI B u 62) (mI B u 63)) = true ∧ (dV (I i).2.2.1 (tlO (mI B (u + 2)) (mI B u 62) (mI B u 63)) = none ∨ dV (I i).2.2.2.1 (tlO (mI B (u + 2)) (mI B u 62) (mI B u 63)) = none) ∧ FX12_runOnce u (Int32.ofNat (8 * i)) B = some (-3, B1)) ∨ (dT (I i).2.2.2.2 (tlO (mI B (u + 2)) (mI B u 62) (mI B u 63)) = true ∧ ∃ v1 v2 x y, dV (I i).2.2.1 (tlO (mI B (u + 2)) (mI B u 62) (mI B u 63)) = some v1 ∧ dV (I i).2.2.2.1 (tlO (mI B (u + 2)) (mI B u 62) (mI B u 63)) = some v2 ∧ ((I i).2.2.1 ≠ none → x = v1.toInt32) ∧ ((I i).2.2.2.1 ≠ none → y = v2.toInt32) ∧ FX12_runOnce u (Int32.ofNat (8 * i)) B = bdM (actR u (I i).1 x y B1) (refF u (Int32.ofNat (8 * i))))) := by
  obtain ⟨b1, b2, b3, b4, c0, c7, lb, g1, g2, g3, d1, d2, c5, c6⟩ := hX i hi
  have l3 := g3.le
  have l2 := g2.le
  generalize hr : mI B (u + 2) = r
  generalize hdn : mI B u 62 = dn
  generalize hlt : mI B u 63 = lt
  generalize htl : tlO r dn lt = tl
  -- the words are told
  generalize hB14 : sI (sJ (sJ (sJ (sJ (sJ B (u + 19) 1 (r 9).toInt64) (u + 19) 2 dn.toInt64) (u + 19) 3 lt.toInt64) (u + 19) 4 (r 12).toInt64) (u + 19) 5 (r 14).toInt64) u 65 0 = B14
  have E14 : Eo (fun q => q = u ∨ q = u + 19 ∨ q = u + 20) B B14 := by
    have w : ∀ (X : Mem) (k : Nat) (v : Int64), Eo (fun q => q = u ∨ q = u + 19 ∨ q = u + 20) X (sJ X (u + 19) k v) := fun X k v => Eo_sJ (Or.inr (Or.inl rfl))
    rw [← hB14]
    exact (((((w _ _ _).tr (w _ _ _)).tr (w _ _ _)).tr (w _ _ _)).tr (w _ _ _)).tr (Eo_sI (Or.inl rfl))
  have u14 : ∀ k, k ≠ 65 → mI B14 u k = mI B u k := fun k hk => by rw [← hB14, mI_n2 hk]; rfl
  have n65 : mI B14 u 65 = 0 := by rw [← hB14, mI_e]
  have r14 : mI B14 (u + 2) = r := by rw [(E14 (u + 2) (by omega)).1, hr]
  have N14 : NowM u B14 r dn lt := by
    refine ⟨r14, ?_, ?_, ?_, ?_, ?_⟩ <;> (rw [← hB14, mJ_sI]; simp (disch := omega) only [mI_n1, mI_n2, mI_e, mJ_n1, mJ_n2, mJ_e, mI_sJ, mI_sR, mJ_sI, mJ_sR, mR_sI, mR_sJ])
  have O14 : O1E u B B14 := ⟨E14, fun k _ k65 => u14 k k65⟩
  -- a sum of this order, from any memory behind
  have seg : ∀ (K : Mem), O1E u B K → NowM u K r dn lt → mI K u 65 = 0 → ∀ (a x y : Nat) (f : Option Den), 8 * i < a → a < 8 * i + 7 → ((f = none ∧ mI B (u + 40) a = mI B (u + 40) (a + 1)) ∨ (f ≠ none ∧ mI B (u + 40) a = Int32.ofNat x ∧ mI B (u + 40) (a + 1) = Int32.ofNat y)) → y ≤ 400 → sgR 1 (mI B (u + 11)) (mI B (u + 12)) x y f → ∃ w N, FX12_sumOf u (Int32.ofNat a) K = some (w, N) ∧ O1E u B N ∧ NowM u N r dn lt ∧ ((dV f tl = none ∧ mI N u 65 = 1) ∨ ∃ v, dV f tl = some v ∧ mI N u 65 = 0 ∧ (f ≠ none → w = v.toInt32)) := fun K kO kN k65 a x y f ha ha2 hc hy hs => by
    have k40 : mI K (u + 40) = mI B (u + 40) := (kO.1 (u + 40) (by omega)).1
    obtain ⟨w, N, e, e1, e2⟩ := sum_at (u := u) (at' := a) (b1 := x) (b2 := y) (M := K) (r := r) (dn := dn) (lt := lt) (f := f) (by omega) (by rw [kO.2 20 (by decide) (by decide)]; exact h20) k65 kN (by rw [k40]; exact hc) hy (by rw [(kO.1 (u + 11) (by omega)).1, (kO.1 (u + 12) (by omega)).1]; exact hs)
    rw [htl] at e2
    exact ⟨w, N, e, e1.o1 kO, kN.so e1, e2⟩
  have a1 : Int32.ofNat (8 * i) + 1 = Int32.ofNat (8 * i + 1) := nn_add _ 1
  have a3 : Int32.ofNat (8 * i) + 3 = Int32.ofNat (8 * i + 3) := nn_add _ 3
  have a5 : Int32.ofNat (8 * i) + 5 = Int32.ofNat (8 * i + 5) := nn_add _ 5
  have a6 : Int32.ofNat (8 * i) + 6 = Int32.ofNat (8 * i + 6) := nn_add _ 6
  generalize hP : (fun X : Option (Int32 × Mem) => ∃ B1, O1E u B B1 ∧ ((dT (I i).2.2.2.2 tl = false ∧ X = some (0, B1)) ∨ (dT (I i).2.2.2.2 tl = true ∧ (dV (I i).2.2.1 tl = none ∨ dV (I i).2.2.2.1 tl = none) ∧ X = some (-3, B1)) ∨ (dT (I i).2.2.2.2 tl = true ∧ ∃ v1 v2 x y, dV (I i).2.2.1 tl = some v1 ∧ dV (I i).2.2.2.1 tl = some v2 ∧ ((I i).2.2.1 ≠ none → x = v1.toInt32) ∧ ((I i).2.2.2.1 ≠ none → y = v2.toInt32) ∧ X = bdM (actR u (I i).1 x y B1) (refF u (Int32.ofNat (8 * i)))))) = P
  have sums : ∀ K, O1E u B K → NowM u K r dn lt → mI K u 65 = 0 → dT (I i).2.2.2.2 tl = true → P (bdM (FX12_sumOf u (Int32.ofNat (8 * i + 1)) K) fun r23 M22 => bdM (FX12_sumOf u (Int32.ofNat (8 * i + 3)) M22) fun r25 M24 => if (mI M24 u 65) = 0 then gd (inb (Int32.ofNat (8 * i)) 96) <| bdM (FX12_act u (mI M24 (u + 40) (ix (Int32.ofNat (8 * i)))) r23 r25 M24) fun r29 M28 => refF u (Int32.ofNat (8 * i)) r29 M28 else some ((-3), M24)) := fun K kO kN k65 hT => by
    rw [← hP]
    obtain ⟨w, N, e, nO, nN, ne⟩ := seg K kO kN k65 (8 * i + 1) b1 b2 (I i).2.2.1 (by omega) (by omega) d1 (by omega) g1
    rw [bo e]
    rcases ne with ⟨z1, z2⟩ | ⟨v1, z1, z2, z3⟩
    · rw [bo (sumOf_no (at' := 8 * i + 3) (by omega) (Or.inl (by rw [z2]; decide))), if_neg (by rw [z2]; decide)]
      exact ⟨N, nO, Or.inr (Or.inl ⟨hT, Or.inl z1, rfl⟩)⟩
    obtain ⟨w2, N2, e2, nO2, nN2, ne2⟩ := seg N nO nN z2 (8 * i + 3) b2 b3 (I i).2.2.2.1 (by omega) (by omega) d2 (by omega) g2
    rw [bo e2]
    rcases ne2 with ⟨y1, y2⟩ | ⟨v2, y1, y2, y3⟩
    · rw [if_neg (by rw [y2]; decide)]
      exact ⟨N2, nO2, Or.inr (Or.inl ⟨hT, Or.inr y1, rfl⟩)⟩
    rw [if_pos y2, gp (inb_nn (by omega) (by decide)), nn_ix (by omega), (nO2.1 (u + 40) (by omega)).1, c0, act_r hk]
    exact ⟨N2, nO2, Or.inr (Or.inr ⟨hT, v1, v2, w, w2, z1, y1, z3, y3, rfl⟩)⟩
  have main : P (FX12_runOnce u (Int32.ofNat (8 * i)) B) := by
    unfold FX12_runOnce
    rw [nmb, nmb, nmb, nmb, nmb, nmb]
    show P (gd (inb (Int32.ofNat (8 * i) + 5) 96) <| gd (inb (Int32.ofNat (8 * i) + 6) 96) <| jn1 (fun (M19 : Mem) => bdM (FX12_sumOf u (Int32.ofNat (8 * i) + 1) M19) fun r23 M22 => bdM (FX12_sumOf u (Int32.ofNat (8 * i) + 3) M22) fun r25 M24 => if (mI M24 u 65) = 0 then gd (inb (Int32.ofNat (8 * i)) 96) <| bdM (FX12_act u (mI M24 (u + 40) (ix (Int32.ofNat (8 * i)))) r23 r25 M24) fun r29 M28 => refF u (Int32.ofNat (8 * i)) r29 M28 else some ((-3), M24)) fun j20 => if (mI (sI (sJ (sJ (sJ (sJ (sJ B (u + 19) 1 (mI B (u + 2) 9).toInt64) (u + 19) 2 (mI B u 62).toInt64) (u + 19) 3 (mI B u 63).toInt64) (u + 19) 4 (mI B (u + 2) 12).toInt64) (u + 19) 5 (mI B (u + 2) 14).toInt64) u 65 0) (u + 40) (ix (Int32.ofNat (8 * i) + 6))) ≤ (mI (sI (sJ (sJ (sJ (sJ (sJ B (u + 19) 1 (mI B (u + 2) 9).toInt64) (u + 19) 2 (mI B u 62).toInt64) (u + 19) 3 (mI B u 63).toInt64) (u + 19) 4 (mI B (u + 2) 12).toInt64) (u + 19) 5 (mI B (u + 2) 14).toInt64) u 65 0) (u + 40) (ix (Int32.ofNat (8 * i) + 5))) then j20 (sI (sJ (sJ (sJ (sJ (sJ B (u + 19) 1 (mI B (u + 2) 9).toInt64) (u + 19) 2 (mI B u 62).toInt64) (u + 19) 3 (mI B u 63).toInt64) (u + 19) 4 (mI B (u + 2) 12).toInt64) (u + 19) 5 (mI B (u + 2) 14).toInt64) u 65 0) else bdM (FX12_sumOf u (Int32.ofNat (8 * i) + 5) (sI (sJ (sJ (sJ (sJ (sJ B (u + 19) 1 (mI B (u + 2) 9).toInt64) (u + 19) 2 (mI B u 62).toInt64) (u + 19) 3 (mI B u 63).toInt64) (u + 19) 4 (mI B (u + 2) 12).toInt64) (u + 19) 5 (mI B (u + 2) 14).toInt64) u 65 0)) fun r38 M37 => jn0 (some (0, M37)) fun j39 => if ¬ (mI M37 u 65) = 0 then j39 else if ¬ r38 = 0 then j20 M37 else j39)
    rw [hr, hdn, hlt, hB14, a1, a3, a5, a6, gp (inb_nn (by omega) (by decide)), gp (inb_nn (by omega) (by decide)), jb1, nn_ix (show 8 * i + 5 < _ by omega), nn_ix (show 8 * i + 6 < _ by omega), (E14 (u + 40) (by omega)).1, c5, c6]
    rcases g3 with ⟨e, rfl⟩ | ⟨g, X, e, rfl, hcc, hdd⟩
    · rw [if_pos (Int32.le_refl _)]
      exact sums B14 O14 N14 n65 (by rw [e]; rfl)
    · have hne := DR_ne hdd (by decide) (cmpO N14)
      rw [if_neg (nle (show b3 < b3 + X.length by omega) (by omega))]
      obtain ⟨w, N, e1, nO, nN, ne⟩ := seg B14 O14 N14 n65 (8 * i + 5) b3 (b3 + X.length) (some g) (by omega) (by omega) (Or.inr ⟨by simp, c5, c6⟩) (by omega) (Or.inr ⟨g, X, rfl, rfl, hcc, hdd⟩)
      rw [bo e1, jb]
      rcases ne with ⟨z1, z2⟩ | ⟨v, z1, z2, z3⟩
      · have z1 : g tl = none := z1
        rw [if_pos (by rw [z2]; decide), ← hP]
        exact ⟨N, nO, Or.inl ⟨by rw [e]; unfold dT; simp only [z1], rfl⟩⟩
      · have z1 : g tl = some v := z1
        have hv := hB g e _ v z1
        rw [if_neg (fun y => y z2), z3 (by simp)]
        by_cases z : v = 0
        · rw [if_neg (fun y => y ((b32 hv).mpr z)), ← hP]
          exact ⟨N, nO, Or.inl ⟨by rw [e]; unfold dT; simp only [z1, z]; rfl, rfl⟩⟩
        · rw [if_pos (fun y => z ((b32 hv).mp y))]
          exact sums N nO nN z2 (by rw [e]; unfold dT; simp [z1, z])
  rw [← hP] at main
  exact main
