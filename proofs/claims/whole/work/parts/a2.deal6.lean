/-- what the reference's deal leaves -/
def DiE (u s d : Nat) (M N : Mem) : Prop := Eo (fun q => q = u ∨ q = u + 2 ∨ q = u + 30) M N ∧ mI N u = mI M u ∧ (∀ c, c < 52 → mI N (u + 2) (18 + c) = dlO s d 13 c ∧ mI N (u + 2) (70 + c) = 0) ∧ mI N (u + 2) 8 = mI M (u + 2) 8 + 1 ∧ mI N (u + 2) 9 = 1 ∧ mI N (u + 2) 10 = Int32.ofNat d ∧ mI N (u + 2) 11 = Int32.ofNat (dlC s 12) ∧ mI N (u + 2) 12 = 0 ∧ mI N (u + 2) 13 = 0 ∧ mI N (u + 2) 14 = -1 ∧ mI N (u + 2) 15 = -1 ∧ ∀ k, (k < 8 ∨ k = 16 ∨ k = 17 ∨ 122 ≤ k) → mI N (u + 2) k = mI M (u + 2) k
theorem cs_all : ∀ i, i < 52 → (cs (fun _ => true)).getD i 0 = i := by decide
theorem take_dl {u s i : Nat} {X : Mem} (hs : s ≤ 1000003) (hi : i < 52) (h50 : mJ X u 50 = Int64.ofNat (dlS s i).2) (hP : ∀ j, j < 52 - i → mI X (u + 30) j = Int32.ofNat ((cs (dlS s i).1).getD j 0)) : So (FX12_takeCard u (Int32.ofNat (52 - i)) X) (fun r => r.1 = Int32.ofNat (dlC s i) ∧ Eo (fun q => q = u ∨ q = u + 30) X r.2 ∧ mI r.2 u = mI X u ∧ mJ r.2 u 50 = Int64.ofNat (dlS s (i + 1)).2 ∧ ∀ j, j < 52 - (i + 1) → mI r.2 (u + 30) j = Int32.ofNat ((cs (dlS s (i + 1)).1).getD j 0)) := by
  have hl := dlS_len (s0 := s) i (by omega)
  have hk : sdN (dlS s i).2 % (52 - i) < (cs (dlS s i).1).length := by rw [hl]; exact Nat.mod_lt _ (by omega)
  refine (takeCard_r (P := cs (dlS s i).1) (dlS_seed hs i) (by omega) hl h50 hP).mono (fun r hr => ?_)
  obtain ⟨a1, a2, a3, a4, a5⟩ := hr
  refine ⟨a1, a2, a3, a4, fun j hj => ?_⟩
  rw [a5 j (by omega), er_cs hk]; rfl
theorem dealIt_r {u s d0 d : Nat} {M : Mem} (hs : s ≤ 1000003) (hd : d0 < 2) (hd' : d = 1 - d0) (h10 : mI M (u + 2) 10 = Int32.ofNat d0) (h50 : mJ M u 50 = Int64.ofNat s) : So (FX12_dealIt u M) (fun N => DiE u s d M N ∧ mJ N u 50 = Int64.ofNat (dlS s 13).2) := by
  have hd2 : d < 2 := by omega
  unfold FX12_dealIt
  refine loop_for 52 (by decide) (fun i N => Eo (fun q => q = u + 2 ∨ q = u + 30) M N ∧ (∀ c, c < i → mI N (u + 30) c = Int32.ofNat c ∧ mI N (u + 2) (18 + c) = -1 ∧ mI N (u + 2) (70 + c) = 0) ∧ ∀ k, (k < 18 ∨ 122 ≤ k) → mI N (u + 2) k = mI M (u + 2) k) M ⟨Eo.rf, fun c hc => absurd hc (by omega), fun k _ => rfl⟩ (fun N rec hI => ?_) (fun i N rec hi hI hr => ?_)
  · obtain ⟨e1, e2, e3⟩ := hI
    refine So.ite (fun _ => So_nm ?_) (fun hc => absurd hc (ge_self 52))
    rw [e3 10 (by omega), h10, show (1 : Int32) - Int32.ofNat d0 = Int32.ofNat d from by rw [hd']; exact nn_sub (a := 1) (by omega) (by omega)]
    refine loop_for 12 (by decide) (fun i X => Eo (fun q => q = u ∨ q = u + 2 ∨ q = u + 30) M X ∧ mI X u = mI M u ∧ mJ X u 50 = Int64.ofNat (dlS s i).2 ∧ (∀ j, j < 52 - i → mI X (u + 30) j = Int32.ofNat ((cs (dlS s i).1).getD j 0)) ∧ (∀ c, c < 52 → mI X (u + 2) (18 + c) = dlO s d i c ∧ mI X (u + 2) (70 + c) = 0) ∧ mI X (u + 2) 10 = Int32.ofNat d ∧ ∀ k, k ≠ 10 → (k < 18 ∨ 122 ≤ k) → mI X (u + 2) k = mI M (u + 2) k) _ ⟨?_, ?_, ?_, ?_, ?_, ?_, ?_⟩ (fun X rec2 hX => ?_) (fun i X rec2 hi hX hr2 => ?_)
    · exact (e1.up (fun a ha => by omega)).tr (Eo_sI (by omega))
    · rw [(Ea_sI (M := N) (a := u + 2) (b := u) (by omega)).1, (e1 u (by omega)).1]
    · rw [mJ_sI, (e1 u (by omega)).2.1]; exact h50
    · intro j hj
      rw [mI_n1 (by omega), (e2 j (by omega)).1]
      show _ = Int32.ofNat ((cs (fun _ => true)).getD j 0)
      rw [cs_all j (by omega)]
    · intro c hc
      rw [mI_n2 (by omega), mI_n2 (by omega)]; exact ⟨(e2 c hc).2.1, (e2 c hc).2.2⟩
    · rw [mI_e]
    · intro k a b; rw [mI_n2 a]; exact e3 k b
    · obtain ⟨x1, x2, x3, x4, x5, x6, x7⟩ := hX
      refine So.ite (fun _ => ?_) (fun hc => absurd hc (ge_self 12))
      refine So_bdM (show So (FX12_takeCard u 40 X) _ from take_dl hs (i := 12) (by decide) x3 x4) (fun r Y hY => So_nm ?_)
      obtain ⟨y1, y2, y3, y4, y5⟩ := hY
      have y1 : r = Int32.ofNat (dlC s 12) := y1
      have y2 : Eo (fun q => q = u ∨ q = u + 30) X Y := y2
      have y3 : mI Y u = mI X u := y3
      have hY : ∀ k, mI Y (u + 2) k = mI X (u + 2) k := fun k => by rw [(y2 (u + 2) (by omega)).1]
      have hc := (dlC_in (s0 := s) (i := 12) (by omega)).1
      have hd12 : ∀ c, dlO s d 13 c = if c = dlC s 12 then 3 else dlO s d 12 c := fun c => rfl
      generalize hg : dlC s 12 = g at y1 hc hd12 ⊢
      rw [mI_e, y1, show (18 : Int32) + Int32.ofNat g = Int32.ofNat (18 + g) from nn_add 18 _, nn_ix (by omega)]
      refine So_gd (inb_nn (by omega) (by decide)) (So_nm (So_nm (So_nm (So_nm (So_nm (So_nm (So_nm (So.ok ?_))))))))
      generalize hZ : sI (sI (sI (sI (sI (sI (sI Y (u + 2) 11 (Int32.ofNat g)) (u + 2) (18 + g) 3) (u + 2) 9 1) (u + 2) 12 0) (u + 2) 13 0) (u + 2) 14 (-1)) (u + 2) 15 (-1) = Z
      have ez : ∀ q, q ≠ u + 2 → Ea Y Z q := fun q hq => by rw [← hZ]; (repeat (first | exact Ea.rf _ _ | refine Ea.tr ?_ (Ea_sI (by omega)) | refine Ea.tr ?_ (Ea_sJ (by omega))))
      have z8 : mI Z (u + 2) 8 = mI M (u + 2) 8 := by rw [← hZ]; simp (disch := omega) only [mI_n1, mI_n2, mI_e, mJ_n1, mJ_n2, mJ_e, mI_sJ, mI_sR, mJ_sI, mJ_sR, mR_sI, mR_sJ]; rw [hY, x7 8 (by decide) (by omega)]
      refine ⟨⟨fun q hq => ?_, ?_, fun c hc' => ⟨?_, ?_⟩, ?_, ?_, ?_, ?_, ?_, ?_, ?_, ?_, fun k hk => ?_⟩, ?_⟩
      · exact (((x1 q hq).tr (y2 q (by omega))).tr (ez q (by omega))).tr (Ea_sI (by omega))
      · rw [(Ea_sI (M := Z) (a := u + 2) (b := u) (by omega)).1, (ez u (by omega)).1, y3, x2]
      · rw [hd12, mI_n2 (by omega)]
        by_cases w : c = g
        · rw [if_pos w, w, ← hZ]; simp (disch := omega) only [mI_n1, mI_n2, mI_e, mJ_n1, mJ_n2, mJ_e, mI_sJ, mI_sR, mJ_sI, mJ_sR, mR_sI, mR_sJ]
        · rw [if_neg w, ← hZ]; simp (disch := omega) only [mI_n1, mI_n2, mI_e, mJ_n1, mJ_n2, mJ_e, mI_sJ, mI_sR, mJ_sI, mJ_sR, mR_sI, mR_sJ]; rw [hY]; exact (x5 c hc').1
      · rw [mI_n2 (by omega), ← hZ]; simp (disch := omega) only [mI_n1, mI_n2, mI_e, mJ_n1, mJ_n2, mJ_e, mI_sJ, mI_sR, mJ_sI, mJ_sR, mR_sI, mR_sJ]; rw [hY]; exact (x5 c hc').2
      · rw [mI_e, z8]
      · rw [mI_n2 (by decide), ← hZ]; simp (disch := omega) only [mI_n1, mI_n2, mI_e, mJ_n1, mJ_n2, mJ_e, mI_sJ, mI_sR, mJ_sI, mJ_sR, mR_sI, mR_sJ]
      · rw [mI_n2 (by decide), ← hZ]; simp (disch := omega) only [mI_n1, mI_n2, mI_e, mJ_n1, mJ_n2, mJ_e, mI_sJ, mI_sR, mJ_sI, mJ_sR, mR_sI, mR_sJ]; rw [hY]; exact x6
      · rw [mI_n2 (by decide), ← hZ]; simp (disch := omega) only [mI_n1, mI_n2, mI_e, mJ_n1, mJ_n2, mJ_e, mI_sJ, mI_sR, mJ_sI, mJ_sR, mR_sI, mR_sJ]; rw [hg]
      · rw [mI_n2 (by decide), ← hZ]; simp (disch := omega) only [mI_n1, mI_n2, mI_e, mJ_n1, mJ_n2, mJ_e, mI_sJ, mI_sR, mJ_sI, mJ_sR, mR_sI, mR_sJ]
      · rw [mI_n2 (by decide), ← hZ]; simp (disch := omega) only [mI_n1, mI_n2, mI_e, mJ_n1, mJ_n2, mJ_e, mI_sJ, mI_sR, mJ_sI, mJ_sR, mR_sI, mR_sJ]
      · rw [mI_n2 (by decide), ← hZ]; simp (disch := omega) only [mI_n1, mI_n2, mI_e, mJ_n1, mJ_n2, mJ_e, mI_sJ, mI_sR, mJ_sI, mJ_sR, mR_sI, mR_sJ]
      · rw [mI_n2 (by decide), ← hZ]; simp (disch := omega) only [mI_n1, mI_n2, mI_e, mJ_n1, mJ_n2, mJ_e, mI_sJ, mI_sR, mJ_sI, mJ_sR, mR_sI, mR_sJ]
      · rw [mI_n2 (by omega), ← hZ]; simp (disch := omega) only [mI_n1, mI_n2, mI_e, mJ_n1, mJ_n2, mJ_e, mI_sJ, mI_sR, mJ_sI, mJ_sR, mR_sI, mR_sJ]; rw [hY]; exact x7 k (by omega) (by omega)
      · rw [mJ_sI, (ez u (by omega)).2.1]; exact y4
    · obtain ⟨x1, x2, x3, x4, x5, x6, x7⟩ := hX
      refine So.ite (fun hc => absurd hc (nle hi (by decide))) (fun _ => ?_)
      rw [show (52 : Int32) - Int32.ofNat i = Int32.ofNat (52 - i) from nn_sub (a := 52) (by omega) (by omega)]
      refine So_bdM (take_dl hs (by omega) x3 x4) (fun r Y hY => ?_)
      obtain ⟨y1, y2, y3, y4, y5⟩ := hY
      have y1 : r = Int32.ofNat (dlC s i) := y1
      have y2 : Eo (fun q => q = u ∨ q = u + 30) X Y := y2
      have y3 : mI Y u = mI X u := y3
      have y4 : mJ Y u 50 = Int64.ofNat (dlS s (i + 1)).2 := y4
      have y5 : ∀ j, j < 52 - (i + 1) → mI Y (u + 30) j = Int32.ofNat ((cs (dlS s (i + 1)).1).getD j 0) := y5
      have hY : ∀ k, mI Y (u + 2) k = mI X (u + 2) k := fun k => by rw [(y2 (u + 2) (by omega)).1]
      have hc := (dlC_in (s0 := s) (i := i) (by omega)).1
      generalize hx : (if i % 2 = 1 then d else 1 - d) = x
      refine So_jn1R (fun v => v = Int32.ofNat x) (fun v hv => ?_) (fun j hj => ?_)
      · subst hv
        rw [y1, show (18 : Int32) + Int32.ofNat (dlC s i) = Int32.ofNat (18 + dlC s i) from nn_add 18 _, nn_ix (by omega)]
        refine So_gd (inb_nn (by omega) (by decide)) (So_nm (So_nm (hr2 _ ⟨(x1.tr (y2.up (fun a ha => by omega))).tr (Eo_sI (by omega)), ?_, ?_, ?_, ?_, ?_, ?_⟩)))
        · rw [(Ea_sI (M := Y) (a := u + 2) (b := u) (by omega)).1, y3, x2]
        · rw [mJ_sI]; exact y4
        · intro j hj; rw [mI_n1 (by omega)]; exact y5 j hj
        · intro c hc'
          refine ⟨?_, by rw [mI_n2 (by omega), hY]; exact (x5 c hc').2⟩
          show _ = if c = dlC s i then (if i = 12 then 3 else Int32.ofNat (if i % 2 = 1 then d else 1 - d)) else dlO s d i c
          by_cases z : c = dlC s i
          · rw [z, mI_e, if_pos rfl, if_neg (by omega), hx]
          · rw [if_neg z, mI_n2 (by omega), hY]; exact (x5 c hc').1
        · rw [mI_n2 (by omega), hY]; exact x6
        · intro k a b; rw [mI_n2 (by omega), hY]; exact x7 k a b
      · rw [show irm (Int32.ofNat i) 2 = Int32.ofNat (i % 2) from nn_rem (b := 2) (by omega) (by decide), hY, x6]
        by_cases w : i % 2 = 1
        · rw [if_pos (show ¬ Int32.ofNat (i % 2) = 0 from by rw [w]; decide)]
          exact hj _ (by rw [← hx, if_pos w])
        · rw [if_neg (show ¬ ¬ Int32.ofNat (i % 2) = 0 from fun v => v (by rw [show i % 2 = 0 by omega]; rfl))]
          exact hj _ (by rw [← hx, if_neg w]; exact nn_sub (a := 1) (by omega) (by omega))
  · obtain ⟨e1, e2, e3⟩ := hI
    refine So.ite (fun hc => absurd hc (nle hi (by decide))) (fun _ => ?_)
    rw [show (18 : Int32) + Int32.ofNat i = Int32.ofNat (18 + i) from nn_add 18 i, show (70 : Int32) + Int32.ofNat i = Int32.ofNat (70 + i) from nn_add 70 i, nn_ix (by omega), nn_ix (by omega), nn_ix (by omega)]
    refine So_gd (inb_nn hi (by decide)) (So_nm (So_gd (inb_nn (by omega) (by decide)) (So_nm (So_gd (inb_nn (by omega) (by decide)) (So_nm (So_nm (hr _ ⟨((e1.tr (Eo_sI (Or.inr rfl))).tr (Eo_sI (Or.inl rfl))).tr (Eo_sI (Or.inl rfl)), fun c hc => ?_, fun k hk => ?_⟩)))))))
    · by_cases z : c = i
      · subst z
        refine ⟨?_, ?_, ?_⟩ <;> simp (disch := omega) only [mI_n1, mI_n2, mI_e, mJ_n1, mJ_n2, mJ_e, mI_sJ, mI_sR, mJ_sI, mJ_sR, mR_sI, mR_sJ]
      · obtain ⟨a1, a2, a3⟩ := e2 c (by omega)
        refine ⟨?_, ?_, ?_⟩
        · simp (disch := omega) only [mI_n1, mI_n2, mI_e, mJ_n1, mJ_n2, mJ_e, mI_sJ, mI_sR, mJ_sI, mJ_sR, mR_sI, mR_sJ]; exact a1
        · simp (disch := omega) only [mI_n1, mI_n2, mI_e, mJ_n1, mJ_n2, mJ_e, mI_sJ, mI_sR, mJ_sI, mJ_sR, mR_sI, mR_sJ]; exact a2
        · simp (disch := omega) only [mI_n1, mI_n2, mI_e, mJ_n1, mJ_n2, mJ_e, mI_sJ, mI_sR, mJ_sI, mJ_sR, mR_sI, mR_sJ]; exact a3
    · simp (disch := omega) only [mI_n1, mI_n2, mI_e, mJ_n1, mJ_n2, mJ_e, mI_sJ, mI_sR, mJ_sI, mJ_sR, mR_sI, mR_sJ]; exact e3 k hk
