/-! ===== compare ===== -/
theorem st_compare : St_compare Inv := by
  rintro t u T M p1 p2 ⟨Λ, h⟩
  have hu := h.1
  obtain ⟨nl, c1, c2, c3, c4, c5, c6⟩ := h.2.2.1.2.2.2.2.1
  obtain ⟨a1, a2, a3⟩ := h.held
  have no : FX11_compare t p1 p2 M = some (-1, M) → FX12_compare u p1 p2 M = some (-1, sI M u 0 0) → ∃ v M1 M2, FX11_compare t p1 p2 M = some (v, M1) ∧ FX12_compare u p1 p2 M1 = some (v, M2) ∧ Inv t u T M2 := fun x y => ⟨-1, M, sI M u 0 0, x, y, Λ, h.u0 0⟩
  obtain ⟨v, e1, e2⟩ := isLaw_c (p := p1) c2 c1
  have hLr : ∀ K, mI K (u + 2) = mI M (u + 2) → FX12_isLaw u p1 K = some v := fun K hK => by
    obtain ⟨v', y1, y2⟩ := isLaw_r (u := u) (p := p1) (M := K) (by rw [hK]; exact c3) c1
    rcases e2 with ⟨rfl, q⟩ | ⟨rfl, q⟩
    · rcases y2 with ⟨rfl, _⟩ | ⟨_, q'⟩
      · exact y1
      · exact absurd q q'
    · rcases y2 with ⟨_, q'⟩ | ⟨rfl, _⟩
      · exact absurd q' q
      · exact y1
  rcases e2 with ⟨rfl, hlaw⟩ | ⟨rfl, _⟩
  rotate_left
  · refine no ?_ ?_
    · unfold FX11_compare; rw [ob e1]; rfl
    · unfold FX12_compare; rw [nmb, ob (hLr _ u0_row)]; rfl
  obtain ⟨w, w1, w2, w3⟩ := canCount_b h p2
  rcases w3 with ⟨rfl, c, hc, rfl, h4, hh⟩ | rfl
  rotate_left
  · refine no ?_ ?_
    · unfold FX11_compare; rw [ob e1, jb, if_neg (by decide), ob w1]; rfl
    · unfold FX12_compare; rw [nmb, ob (hLr _ u0_row), jb, if_neg (by decide), ob (w2 _ u0_row)]; rfl
  obtain ⟨x, x1, x2, x3⟩ := SRl.law c1 c2 c6 hlaw
  obtain ⟨N0, n1, n2, n3, n4, n5⟩ := fit_c (w := t + 191) (b := t + 1) (p := t + 1 + 1) (by omega) (by omega) (by omega) h.2.2.2.2.2.2.2.2.1 x1 x2
  have iN0 : InvL Λ t u T N0 := h.worth (Or.inr rfl) n2 n3
  have q1 : mI M (t + 1 + 1) 12 = mI M (u + 2) 8 := h.2.2.1.1.2.2.2.2.2.2.2.2.2.2.2.1
  have q2 : mI M (t + 1 + 8) 1 = mI M (u + 2) 6 := h.2.2.1.2.2.2.2.2.2.1
  have q3 : mI M (t + 1 + 8) 2 = mI M (u + 2) 7 := h.2.2.1.2.2.2.2.2.2.2.1
  have q7 : 5 ≤ (mI M (u + 2) 7).toInt ∧ (mI M (u + 2) 7).toInt ≤ 31 := h.2.2.1.2.2.2.2.2.2.2.2.2.2
  rw [q1, q2] at n5
  rw [q3] at n4
  generalize hn : (LOf Λ x).1 = n at n5 x3
  generalize hI : (LOf Λ x).2 = I at n5 x3
  have hY : mI M (u + 2) 7 = Int32.ofNat (mI M (u + 2) 7).toInt.toNat := (nn_of (by omega)).symm
  have hY2 : (mI M (u + 2) 7).toInt.toNat ≤ 31 := by omega
  generalize (mI M (u + 2) 7).toInt.toNat = Y at hY hY2
  have hW : WV N0 (t + 191) (vN I n (mI M (u + 2) 8) (mI M (u + 2) 6)) Y (cN I n (mI M (u + 2) 8) (mI M (u + 2) 6)) := ⟨_, _, _, _, n5, by rw [n4]; exact hY, hY2, rfl, rfl⟩
  have r0 : mI N0 (u + 2) = mI M (u + 2) := (n2 (u + 2) (by omega)).1
  have hB : Bs (mJ N0 (t + 1) 5) (hP (mI M (u + 2))) := by have := iN0.held.1; rw [r0] at this; exact this
  obtain ⟨N, m1, m2, m3⟩ := take_c (b := t + 203) (pl := 0) (by omega) hW (by omega) hB h4
  have hpt := part_c (s := c) (wh := 0) (hW.keep (fun q a b => m2 q (by omega))) (by omega) h4 m3 hc (by omega)
  have iN : InvL Λ t u T N := iN0.scr (m2.up (fun q hq => by omega))
  have r2 : mI N (u + 2) = mI M (u + 2) := by rw [(m2 (u + 2) (by omega)).1, r0]
  have r3 : mI (sI N u 0 0) (u + 2) = mI M (u + 2) := u0_row.trans r2
  have z20 : mI (sI N u 0 0) u 20 = 0 := by rw [mI_n2 (by decide)]; exact iN.2.2.2.2.2.2.2.2.2.2.2.2
  generalize hM1 : sI N u 0 0 = M1 at r3 z20
  have rr : mI (sI M1 (u + 2) 2 p1) (u + 2) = ru (mI M (u + 2)) 2 p1 := by rw [sI_ru, r3]
  have rl : RL u n I (mI M (u + 2) 8) (mI M (u + 2) 6) (sI M1 (u + 2) 2 p1) := by
    refine ⟨?_, by rw [mI_n1 (by omega)]; exact z20, by rw [rr, ru_n (by decide)], by rw [rr, ru_n (by decide)]⟩
    rw [rr, ru_e]
    rcases x3 with z | ⟨i, len, b1, b2, b3⟩
    · exact Or.inl z
    · exact Or.inr ⟨i, len, b1, b2, b3.row (fun k ha hb => ru_n (by omega))⟩
  obtain ⟨M10, g1, g2, g3, g4, _⟩ := layCounts_r (pl := 0) rl (by decide)
  generalize hM12 : sI M10 (u + 2) 2 (mI M1 (u + 2) 2) = M12
  have r12 : mI M12 (u + 2) = mI M (u + 2) := by
    rw [← hM12, sI_ru, g2.row, rr, r3]
    funext k
    show (if k = 2 then _ else if k = 2 then _ else _) = _
    by_cases z : k = 2
    · rw [if_pos z, z]
    · rw [if_neg z, if_neg z]
  have cn12 : CnE u M1 M12 := by
    refine ⟨fun q hq => ?_, fun k a b => ?_, fun k a b => ?_⟩
    · by_cases z : q = u + 2
      · subst z
        obtain ⟨f1, f2, f3, f4⟩ := g2.1 (u + 2) hq
        refine ⟨by rw [r12, r3], ?_, ?_, ?_⟩
        · rw [← hM12]; exact f2
        · rw [← hM12]; exact f3
        · rw [← hM12]; exact f4
      · rw [← hM12]
        exact ((Ea_sI z).tr (g2.1 q hq)).tr (Ea_sI z)
    · rw [← hM12, mI_n1 (by omega), g2.2.1 k a b, mI_n1 (by omega)]
    · rw [← hM12, mJ_sI, g2.2.2 k a b, mJ_sI]
  obtain ⟨M13, k1, k2, k3⟩ := takeHeld_r (u := u) (M := M12) (by rw [r12]; exact h4)
  rw [r12] at k3
  have l12 : LC u (vN I n (mI M (u + 2) 8) (mI M (u + 2) 6)) (cN I n (mI M (u + 2) 8) (mI M (u + 2) 6) 0) M12 := g3.keep (fun j a b => by rw [← hM12]; funext k; rw [mI_n1 (by omega)])
  have s13 : S5 u (vN I n (mI M (u + 2) 8) (mI M (u + 2) 6)) (cN I n (mI M (u + 2) 8) (mI M (u + 2) 6) 0) (hP (mI M (u + 2))) M1 M13 := ⟨cn12.tr (CnE.of k2 (fun q hq => by omega)), l12.keep (fun j a b => (k2 (u + j) (by omega)).1), k3⟩
  obtain ⟨⟨vv, M16⟩, f1, f2, f3⟩ := (s13.st (v := Int32.ofNat c)).five (pl := 0) h4 (fun c => vN_rg.2) (by rw [r3]; exact hY) hY2 (by decide) hc mI_e
  have f2 : S5 u _ _ _ M1 M16 := f2
  have f3 : vv = _ := f3
  have iM1 : InvL Λ t u T M1 := by rw [← hM1]; exact iN.u0 0
  refine ⟨vv, N, M16, ?_, ?_, Λ, iM1.cn f2.1⟩
  · unfold FX11_compare
    rw [ob e1, jb, if_neg (by decide), ob w1, if_pos (by decide), ob n1, ob (show FX2_take (t + 203) (mJ N0 (t + 1) 5) 0 (t + 191) N0 = _ from m1), ob (show FX2_part (t + 203) (Int32.ofNat c) 0 N = _ from hpt), f3]
  · unfold FX12_compare
    rw [hM1, nmb, ob (hLr _ r3), jb, if_neg (by decide), ob (w2 _ r3), if_pos (by decide), nmb, nmb, ob (show FX12_layCounts u 0 (sI M1 (u + 2) 2 p1) = _ from g1), nmb, hM12, ob k1, nmb, bo (show FX12_countFive u 0 (sI M13 (u + 27) 4 (Int32.ofNat c)) = _ from f1)]
