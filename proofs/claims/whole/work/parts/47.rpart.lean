/-! ===== the reference reads a part ===== -/
theorem tkS_E (B : Nat → Nat) {L p : Nat} (h : p ≤ L) : tkS B L p ≤ tkE B L p := by
  by_cases c : tkK B L p = 0
  · have : L ≤ tkS B L p := by
      unfold tkK at c
      by_cases z : L ≤ tkS B L p
      · exact z
      · rw [if_neg z] at c; split at c <;> (try split at c) <;> omega
    have h2 := tkS_le B h
    unfold tkE; rw [if_pos this]; exact h2
  · exact Nat.le_of_lt (tkE_gt B c)
theorem tkS_mono (B : Nat → Nat) {L p : Nat} (h : p ≤ L) : tkS B L p ≤ tkS B L (tkE B L p) := Nat.le_trans (tkS_E B h) (tkS_ge B L _)
theorem tkS_lt (B : Nat → Nat) {L p : Nat} (h : tkK B L p ≠ 0) : tkS B L p + 1 ≤ tkS B L (tkE B L p) := Nat.le_trans (tkE_gt B h) (tkS_ge B L _)
theorem wX_le (x : Nat) : wX x ≤ 3 := by unfold wX; split; omega; split; omega; split <;> omega
theorem bud {B : Nat → Nat} {L p : Nat} (x x' : Nat) (h : tkK B L p ≠ 0) : 4 * (L - tkS B L (tkE B L p)) + wX x' < 4 * (L - tkS B L p) + wX x := by
  have h1 := tkS_lt B h
  have h2 := tk3_lt h
  have h3 := wX_le x'
  omega
theorem bud2 {B : Nat → Nat} {L p q : Nat} (x x' : Nat) (h : tkK B L p ≠ 0) (hq : tkS B L (tkE B L p) ≤ tkS B L q) : 4 * (L - tkS B L q) + wX x' < 4 * (L - tkS B L p) + wX x := by
  have h1 := tkS_lt B h
  have h2 := tk3_lt h
  have h3 := wX_le x'
  omega
theorem must_no {B : Nat → Nat} {L u p lv od : Nat} {N : Mem} {C P : List (Nat × Nat)} (h : RS B L u N p lv od C P) : So (FX12_must u 0 N) (fun N' => PF u N N' ∧ RB u N' (tkS B L p)) := by
  obtain ⟨h1, h2, h3, h4, h5, h6, h7, h8, h9, h10⟩ := h
  have hs := tkS_le B h2
  have hL := h1.1
  unfold FX12_must
  refine So_jn1 ?_
  rw [h4, if_neg (by decide), if_neg (by decide)]
  refine So_nm (So_nm (So_jn1 ?_))
  have e14 : mI (sI N u 19 1) u 14 = Int32.ofNat (tkS B L p) := by rw [mI_sI, if_neg (by simp)]; exact h3.1
  rw [e14]
  have e19 : mI (sI (sI N u 19 1) u 18 (Int32.ofNat (tkS B L p))) u 19 = 1 := by rw [mI_sI, if_neg (by simp), mI_sI, if_pos ⟨rfl, rfl⟩]
  rw [e19, if_pos (by decide)]
  have F : FrU u [18, 19] [] N (sI (sI N u 19 1) u 18 (Int32.ofNat (tkS B L p))) := (FrU_f (by decide)).tr (FrU_f (by decide))
  exact So.ok ⟨PF_f F (by decide) (by decide), e19, by rw [mI_sI, if_pos ⟨rfl, rfl⟩], C, P, h9.keep F (by decide) (by decide) (by decide), by omega⟩
theorem RS.nx {B : Nat → Nat} {L u p lv od : Nat} {N N' : Mem} {C P : List (Nat × Nat)} (h : RS B L u N p lv od C P) (e : NxE u N N') (t : TkR B L u N' (tkE B L p)) : RS B L u N' (tkE B L p) lv od C P := by
  obtain ⟨h1, h2, h3, h4, h5, h6, h7, h8, h9, h10⟩ := h
  have hm := tkS_mono B h2
  exact ⟨h1.keep e, tkE_le B h2, t, by rw [e.2.1 19 (by decide) (by decide) (by decide)]; exact h4, by rw [e.2.1 26 (by decide) (by decide) (by decide)]; exact h5, h6, by rw [e.2.1 30 (by decide) (by decide) (by decide)]; exact h7, h8, CP_n h9 e, by omega⟩
theorem next_rs {B : Nat → Nat} {L u p lv od : Nat} {N : Mem} {C P : List (Nat × Nat)} (h : RS B L u N p lv od C P) : So (FX12_next u N) (fun N' => NxE u N N' ∧ RS B L u N' (tkE B L p) lv od C P) := (next_so h.1 h.2.2.1.2.1 (tkE_le B h.2.1)).mono (fun N' hN => ⟨hN.1, h.nx hN.1 hN.2⟩)
theorem must_yes {B : Nat → Nat} {L u p lv od : Nat} {N : Mem} {C P : List (Nat × Nat)} (h : RS B L u N p lv od C P) : So (FX12_must u 1 N) (fun N' => NxE u N N' ∧ RS B L u N' (tkE B L p) lv od C P) := by
  unfold FX12_must
  refine So_jn1 ?_
  rw [h.2.2.2.1, if_neg (by decide), if_pos (by decide)]
  refine So_jn1 ?_
  rw [h.2.2.2.1, if_neg (by decide)]
  exact So.bind (next_rs h) (fun N' hN => So.ok hN)
/-- other code and pile -/
theorem RS.cp {B : Nat → Nat} {L u p lv od : Nat} {N N' : Mem} {C P C' P' : List (Nat × Nat)} {F A : List Nat} (h : RS B L u N p lv od C P) (e : FrU u F A N N') (hF : ∀ k, k ∈ F → k = 23 ∨ k = 29) (hA : ∀ k, k ∈ A → k ∈ ([11, 12, 13, 14] : List Nat)) (c : CP u N' C' P') (hl : C'.length + P'.length ≤ tkS B L p) : RS B L u N' p lv od C' P' := by
  obtain ⟨h1, h2, h3, h4, h5, h6, h7, h8, h9, h10⟩ := h
  have f : ∀ k, k ≠ 23 → k ≠ 29 → mI N' u k = mI N u k := fun k a b => e.2.1 k (fun z => (hF k z).elim a b)
  have t9 : mI N' (u + 9) = mI N (u + 9) := (e.1 (u + 9) (by omega) (fun o ho => by
    have := hA o ho
    simp only [List.mem_cons, List.not_mem_nil, or_false] at this
    omega)).1
  refine ⟨⟨h1.1, by rw [f 13 (by decide) (by decide)]; exact h1.2.1, fun k hk => by rw [t9]; exact h1.2.2 k hk⟩, h2, ⟨?_, ?_, ?_, ?_⟩, ?_, ?_, h6, ?_, h8, c, hl⟩
  · rw [f 14 (by decide) (by decide)]; exact h3.1
  · rw [f 15 (by decide) (by decide)]; exact h3.2.1
  · rw [f 16 (by decide) (by decide)]; exact h3.2.2.1
  · rw [e.2.2.1]; exact h3.2.2.2
  · rw [f 19 (by decide) (by decide)]; exact h4
  · rw [f 26 (by decide) (by decide)]; exact h5
  · rw [f 30 (by decide) (by decide)]; exact h7
theorem open_so {B : Nat → Nat} {L u p lv od op : Nat} {N : Mem} {C P : List (Nat × Nat)} (h : RS B L u N p lv od C P) (hop : op = 31 ∨ op = 32) (hk : tkK B L p ≠ 0) : So (FX12_openBracket u (Int32.ofNat op) N) (fun N' => PF u N N' ∧ ((od < 8 ∧ RS B L u N' (tkE B L p) lv (od + 1) C (P ++ [(op, 0)])) ∨ (od = 8 ∧ RB u N' (tkS B L p)))) := by
  have hs := tkS_lt B hk
  have hs2 := tkS_le B (tkE_le B h.2.1)
  have hL := h.1.1
  have hl := h.2.2.2.2.2.2.2.2.2
  have ho8 := h.2.2.2.2.2.2.2.1
  unfold FX12_openBracket
  refine So_jn1 ?_
  rw [h.2.2.2.2.2.2.1]
  by_cases c : od < 8
  · rw [if_neg (show ¬ (8 : Int32) ≤ Int32.ofNat od from nle (n := 8) c (by decide))]
    refine So.bind (must_yes h) (fun N1 h1 => So_jn1 ?_)
    obtain ⟨e1, r1⟩ := h1
    rw [r1.2.2.2.1, if_neg (by decide)]
    refine So_nm ?_
    rw [r1.2.2.2.2.2.2.1, s1]
    have F1 : FrU u [30] [] N1 (sI N1 u 30 (Int32.ofNat (od + 1))) := FrU_f (by decide)
    have c1 : CP u (sI N1 u 30 (Int32.ofNat (od + 1))) C P := r1.2.2.2.2.2.2.2.2.1.keep F1 (by decide) (by decide) (by decide)
    refine So.bind (pushR_so (op := op) (x := 0) c1 (by omega) ⟨by omega, by omega, by omega⟩) (fun N2 h2 => So.ok ?_)
    obtain ⟨e2, -, c2⟩ := h2
    have c2' := c2 C (by omega) (by rw [e2.2.1 23 (by decide)]; exact c1.1) (c1.2.1.keep (e2.1 _ (by omega) (by simp)).1 (e2.1 _ (by omega) (by simp)).1)
    refine ⟨((PF_n e1).tr (PF_f F1 (by decide) (by decide))).tr (PF_f e2 (by decide) (by decide)), Or.inl ⟨c, ?_⟩⟩
    have r2 : RS B L u (sI N1 u 30 (Int32.ofNat (od + 1))) (tkE B L p) lv (od + 1) C P := by
      obtain ⟨a1, a2, a3, a4, a5, a6, a7, a8, a9, a10⟩ := r1
      refine ⟨⟨a1.1, by rw [mI_sI, if_neg (by simp)]; exact a1.2.1, fun k hk => by rw [mI_sI, if_neg (by omega)]; exact a1.2.2 k hk⟩, a2, ⟨?_, ?_, ?_, a3.2.2.2⟩, ?_, ?_, a6, by rw [mI_sI, if_pos ⟨rfl, rfl⟩], by omega, c1, a10⟩
      · rw [mI_sI, if_neg (by simp)]; exact a3.1
      · rw [mI_sI, if_neg (by simp)]; exact a3.2.1
      · rw [mI_sI, if_neg (by simp)]; exact a3.2.2.1
      · rw [mI_sI, if_neg (by simp)]; exact a4
      · rw [mI_sI, if_neg (by simp)]; exact a5
    refine r2.cp e2 (by decide) (by decide) c2' ?_
    simp only [List.length_append, List.length_cons, List.length_nil]; omega
  · rw [if_pos (show (8 : Int32) ≤ Int32.ofNat od from (nn_le (a := 8) (by omega) (by omega)).mpr (by omega))]
    refine So.bind (must_no h) (fun N1 h1 => So_jn1 ?_)
    rw [h1.2.1, if_pos (by decide)]
    exact So.ok ⟨h1.1, Or.inr ⟨by omega, h1.2⟩⟩
theorem leaf_yes {B : Nat → Nat} {L u p lv od op x : Nat} {N : Mem} {C P : List (Nat × Nat)} (h : RS B L u N p lv od C P) (hk : tkK B L p ≠ 0) (hlv : lv < 50) : So (FX12_leaf u 1 (Int32.ofNat op) (Int32.ofNat x) N) (fun N' => PF u N N' ∧ RS B L u N' (tkE B L p) (lv + 1) od (C ++ [(op, x)]) P) := by
  have hs := tkS_lt B hk
  have hs2 := tkS_le B (tkE_le B h.2.1)
  have hL := h.1.1
  have hl := h.2.2.2.2.2.2.2.2.2
  unfold FX12_leaf
  refine So_jn1 (So_jn0 ?_)
  rw [if_neg (by decide), h.2.2.2.2.1, if_neg (show ¬ (50 : Int32) ≤ Int32.ofNat lv from nle (n := 50) hlv (by decide))]
  refine So.bind (must_yes h) (fun N1 h1 => So_jn1 ?_)
  obtain ⟨e1, r1⟩ := h1
  rw [r1.2.2.2.1, if_neg (by decide)]
  refine So.bind (emit_so (op := op) (x := x) r1.2.2.2.2.2.2.2.2.1 (by omega)) (fun N2 h2 => So_nm (So.ok ?_))
  obtain ⟨e2, c2⟩ := h2
  have r2 := r1.cp e2 (by decide) (by decide) c2 (by simp only [List.length_append, List.length_cons, List.length_nil]; omega)
  have F3 : FrU u [26] [] N2 (sI N2 u 26 (mI N2 u 26 + 1)) := FrU_f (by decide)
  refine ⟨((PF_n e1).tr (PF_f e2 (by decide) (by decide))).tr (PF_f F3 (by decide) (by decide)), ?_⟩
  obtain ⟨a1, a2, a3, a4, a5, a6, a7, a8, a9, a10⟩ := r2
  refine ⟨⟨a1.1, by rw [mI_sI, if_neg (by simp)]; exact a1.2.1, fun k hk => by rw [mI_sI, if_neg (by omega)]; exact a1.2.2 k hk⟩, a2, ⟨?_, ?_, ?_, a3.2.2.2⟩, ?_, ?_, by omega, ?_, a8, c2.keep F3 (by decide) (by decide) (by decide), a10⟩
  · rw [mI_sI, if_neg (by simp)]; exact a3.1
  · rw [mI_sI, if_neg (by simp)]; exact a3.2.1
  · rw [mI_sI, if_neg (by simp)]; exact a3.2.2.1
  · rw [mI_sI, if_neg (by simp)]; exact a4
  · rw [mI_sI, if_pos ⟨rfl, rfl⟩, a5, s1]
  · rw [mI_sI, if_neg (by simp)]; exact a7
theorem leaf_no {B : Nat → Nat} {L u p lv od : Nat} {N : Mem} {C P : List (Nat × Nat)} {v op x : Int32} (h : RS B L u N p lv od C P) (hb : v = 0 ∨ lv = 50) : So (FX12_leaf u v op x N) (fun N' => PF u N N' ∧ RB u N' (tkS B L p)) := by
  unfold FX12_leaf
  refine So_jn1R (fun v => v = 0) (fun v1 hv => ?_) (fun j hj => So_jn0 ?_)
  · subst hv
    refine So.bind (must_no h) (fun N1 h1 => So_jn1 ?_)
    rw [h1.2.1, if_pos (by decide)]
    exact So.ok h1
  · refine So.ite (fun _ => hj 0 rfl) (fun z => ?_)
    have hlv := hb.resolve_left z
    rw [h.2.2.2.2.1, hlv, if_pos (by decide)]
    exact hj 0 rfl
theorem isW_inj {B : Nat → Nat} {L p i j : Nat} (h : isW B L p i) (h2 : isW B L p j) (hi : i < 29) (hj : j < 29) : i = j := by
  have e1 := (wIx_iff (tkW B L p) hi).mpr h.2
  have e2 := (wIx_iff (tkW B L p) hj).mpr h2.2
  exact (nn_eq (by omega) (by omega)).mp (e1.symm.trans e2)
/-- the words that the reference holds -/
def KW (u : Nat) (N : Mem) : Prop := (∀ k, k < 6 → mJ N (u + 15) k = Int64.ofNat (enc (WL.getD (([11, 12, 13, 14, 10, 15] : List Nat).getD k 0) []))) ∧ (∀ k, k < 7 → mJ N (u + 16) k = Int64.ofNat (enc (WL.getD (16 + k) []))) ∧ (∀ k, k < 7 → mJ N (u + 17) k = Int64.ofNat (enc (WL.getD k []))) ∧ (∀ k, k < 4 → mJ N (u + 39) k = Int64.ofNat (enc (WL.getD (([10, 7, 8, 9] : List Nat).getD k 0) [])))
theorem KW.keep {u : Nat} {M N : Mem} (h : KW u M) (e : PF u M N) : KW u N := by
  unfold KW
  rw [(e.1 (u + 15) (by omega) (by omega) (by omega) (by omega) (by omega)).2.1, (e.1 (u + 16) (by omega) (by omega) (by omega) (by omega) (by omega)).2.1, (e.1 (u + 17) (by omega) (by omega) (by omega) (by omega) (by omega)).2.1, (e.1 (u + 39) (by omega) (by omega) (by omega) (by omega) (by omega)).2.1]
  exact h
/-- a loop over words: the one that the token is -/
theorem wloop {τ : Type} {Q : τ → Prop} {B : Nat → Nat} {L u p a n c : Nat} {N : Mem} {K : Int32 → Option τ} (l : Nat → Nat) (hT : TkR B L u N p) (hn : n < 100) (hc : c < 100) (hl : ∀ k, k < n → l k < 29 ∧ mJ N a k = Int64.ofNat (enc (WL.getD (l k) []))) (hK : ∀ v, ((v = -1 ∧ ∀ k, k < n → ¬ isW B L p (l k)) ∨ ∃ k, k < n ∧ v = Int32.ofNat (k + c) ∧ isW B L p (l k)) → So (K v) Q) : So (wl2 (fun (v1 : Int32) (v2 : Int32) rec3 => if Int32.ofNat n ≤ v2 then K v1 else gd (inb v2 n) <| (FX12_isWord u (mJ N a (ix v2)) N).bind fun r7 => jn1 (fun (v8 : Int32) => nm (v2 + 1) fun v11 => rec3 v8 v11) fun j9 => if r7 = 0 then j9 v1 else j9 (v2 + Int32.ofNat c)) fuel (-1) 0) Q := by
  refine So_wl2 (fun v j => ∃ i, i ≤ n ∧ j = Int32.ofNat i ∧ ((v = -1 ∧ ∀ k, k < i → ¬ isW B L p (l k)) ∨ ∃ k, k < i ∧ v = Int32.ofNat (k + c) ∧ isW B L p (l k))) (fun _ j => n - ix j) ?_ fuel (-1) 0 ⟨0, by omega, rfl, Or.inl ⟨rfl, fun k hk => absurd hk (by omega)⟩⟩ (by unfold fuel; omega)
  rintro v j rec ⟨i, hi, rfl, hv⟩ hr
  by_cases c1 : i = n
  · subst c1
    rw [if_pos (Int32.le_refl _)]; exact hK v hv
  · rw [if_neg (nle (show i < n by omega) (by omega)), nn_ix (by omega)]
    refine So_gd (inb_nn (by omega) (by omega)) ?_
    obtain ⟨l1, l2⟩ := hl i (by omega)
    obtain ⟨w, hw, hw2⟩ := isWord_r hT l1 l2.symm
    rw [hw]
    refine So.bindE rfl (So_jn1R (fun v => (v = -1 ∧ ∀ k, k < i + 1 → ¬ isW B L p (l k)) ∨ ∃ k, k < i + 1 ∧ v = Int32.ofNat (k + c) ∧ isW B L p (l k)) (fun v' hv' => So_nm ?_) (fun j9 hj9 => ?_))
    · rw [s1]
      exact hr _ _ ⟨i + 1, by omega, rfl, hv'⟩ (by rw [nn_ix (by omega), nn_ix (by omega)]; omega)
    · rcases hw2 with ⟨rfl, w2⟩ | ⟨rfl, w2⟩
      · rw [if_neg (by decide), nn_add]
        exact hj9 _ (Or.inr ⟨i, by omega, rfl, w2⟩)
      · rw [if_pos rfl]
        refine hj9 _ ?_
        rcases hv with ⟨a1, a2⟩ | ⟨k, k1, k2, k3⟩
        · refine Or.inl ⟨a1, fun k hk => ?_⟩
          by_cases z : k = i
          · rw [z]; exact w2
          · exact a2 k (by omega)
        · exact Or.inr ⟨k, by omega, k2, k3⟩
