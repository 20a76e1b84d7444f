/-! ===== the reference reads a law ===== -/
theorem lw_bind {τ : Type} {u : Nat} {E : Mem → Option τ} : ∀ n M, wl1 (lawStep u E) n M = (wl1 (lawStep u (fun N => some N)) n M).bind E := by
  intro n
  induction n with
  | zero => intro M; rfl
  | succ n ih =>
    intro M
    show lawStep u E M (wl1 (lawStep u E) n) = (lawStep u (fun N => some N) M (wl1 (lawStep u (fun N => some N)) n)).bind E
    unfold lawStep
    rw [jb, jb]
    by_cases z : ¬ mI M u 19 = 0
    · rw [if_pos z, if_pos z]; rfl
    rw [if_neg z, if_neg z]
    cases FX12_isSign u 59 M with
    | none => rfl
    | some r =>
      rw [ob rfl, ob rfl]
      by_cases y : r = 0
      · rw [if_pos y, if_pos y]; rfl
      rw [if_neg y, if_neg y]
      cases FX12_next u M with
      | none => rfl
      | some M1 =>
        rw [ob rfl, ob rfl]
        cases FX12_readLaw u M1 with
        | none => rfl
        | some M2 => rw [ob rfl, ob rfl]; exact ih M2
def lawX (u : Nat) (N0 : Mem) : Option Mem := (FX12_readLaw u N0).bind fun M4 => wl1 (lawStep u (fun N => some N)) fuel M4
theorem lawX_eq {τ : Type} {u : Nat} {N0 : Mem} {E : Mem → Option τ} : ((FX12_readLaw u N0).bind fun M4 => wl1 (lawStep u E) fuel M4) = (lawX u N0).bind E := by
  unfold lawX
  cases FX12_readLaw u N0 with
  | none => rfl
  | some M => rw [ob rfl, ob rfl]; exact lw_bind fuel M
theorem q_lawX {u : Nat} {c : Int32} {M : Mem} (h : Qt u c M) : Hp (Qt u c) (lawX u M) := by
  unfold lawX lawStep
  (repeat (first | with_reducible assumption | with_reducible refine Hp_nm ?_ | with_reducible refine Hp_gd ?_ | with_reducible refine Hp_ite ?_ ?_ | with_reducible refine Hp_some ?_ | with_reducible exact Hp_none | with_reducible refine Hp_jn0 ?_ (fun _ _ => ?_) | with_reducible refine Hp_jn1M (u := u) (c := c) ?_ (fun _ _ => ?_) | with_reducible refine Hp_jn1 ?_ (fun _ _ => ?_) | with_reducible refine Hp_jn2M (u := u) (c := c) ?_ (fun _ _ => ?_) | with_reducible refine Hp_wl1M (u := u) (c := c) (fun _ _ _ _ => ?_) _ ?_ | with_reducible refine Hp_wl2M (u := u) (c := c) (fun _ _ _ _ _ => ?_) _ ?_ | with_reducible refine Hp_wl2 (fun _ _ _ _ => ?_) _ | with_reducible refine Hp_bindM (u := u) (c := c) ?_ (fun _ _ => ?_) | with_reducible refine Hp_bind0 (fun _ => ?_) | with_reducible refine Hp_bdM (u := u) (c := c) ?_ (fun _ _ _ => ?_) | with_reducible refine Qt_2 ?_ | with_reducible refine Qt_j ?_ | with_reducible exact Qt_f | with_reducible refine Qt_s ?_ ?_ ?_ | with_reducible refine Qt_a ?_ ?_ | with_reducible refine q_next ?_ | with_reducible refine q_must ?_ | with_reducible refine q_settle ?_ | with_reducible refine q_emit ?_ | with_reducible refine q_push ?_ | with_reducible refine q_bTest ?_ | with_reducible refine q_bSum ?_ | with_reducible refine q_part ?_ | with_reducible refine q_leaf ?_ | with_reducible refine q_num ?_ | with_reducible refine q_open ?_ | with_reducible refine q_plain ?_ | with_reducible refine q_expr ?_ | with_reducible refine q_law ?_ | with_reducible refine q_sum ?_ | with_reducible refine q_ord ?_ | with_reducible refine q_end ?_ | with_reducible apply_assumption | with_reducible intro _ | (show _ ≠ _; omega)))
theorem law_run {B : Nat → Nat} {L u p lv n : Nat} {I : Nat → CI} {N0 : Mem} (h : LSim B L p lv n I) (hn : n ≤ 12) (hg : ¬ isG B L p 59) (r : RE B L u 0 N0 0 0 []) (h21 : mI N0 u 21 = 0) (hq : Qt u (-1) N0) : ∃ N' C, lawX u N0 = some N' ∧ ML u 10 N0 N' ∧ RE B L u 0 N' p lv C ∧ mI N' u 21 = Int32.ofNat n ∧ TxL (mI N' (u + 11)) (mI N' (u + 12)) (mI N' (u + 10)) C.length n I ∧ mI N' u 18 = -1 := by
  have hfu : fuel = 1000000 := rfl
  have s : So (lawX u N0) (fun N' => ∃ C, ML u 10 N0 N' ∧ RE B L u 0 N' p lv C ∧ mI N' u 21 = Int32.ofNat n ∧ TxL (mI N' (u + 11)) (mI N' (u + 12)) (mI N' (u + 10)) C.length n I) :=
    h u N0 Mem (fun N => some N) _ r h21 (fun N' C fu a1 a2 a3 a4 a5 => ls_end a2 hg (by omega) (So.ok ⟨C, a1, a2, a3, a4⟩))
  obtain ⟨N', e, C, a1, a2, a3, a4⟩ := s
  exact ⟨N', C, e, a1, a2, a3, a4, q_lawX hq N' e a2.2.2.2.1⟩
theorem law_flt {B : Nat → Nat} {L u f : Nat} {N0 : Mem} (h : LFail B L f) (r : RE B L u 0 N0 0 0 []) (h21 : mI N0 u 21 = 0) : ∃ N', lawX u N0 = some N' ∧ ML u 10 N0 N' ∧ Bad u N' f := by
  have s : So (lawX u N0) (fun N' => ML u 10 N0 N' ∧ Bad u N' f) := h u N0 Mem (fun N => some N) _ r h21 (fun N' a1 a2 => So.ok ⟨a1, a2⟩)
  obtain ⟨N', e, a1, a2⟩ := s
  exact ⟨N', e, a1, a2⟩
/-- what the beginning of a text changes -/
def BgE (u : Nat) (M N : Mem) : Prop := Eo (fun q => q = u) M N ∧ (∀ k, k ∉ ([14, 15, 16, 18, 19, 20, 21, 23, 26] : List Nat) → mI N u k = mI M u k)
theorem begin_r {B : Nat → Nat} {L u o : Nat} {M : Mem} (ho : o = 0 ∨ o = 1) (T : TpR B L u M) (K : KW u M) : So (FX12_beginText u (Int32.ofNat o) M) (fun N => BgE u M N ∧ RE B L u o N 0 0 [] ∧ mI N u 21 = 0 ∧ mI N u 18 = -1) := by
  obtain ⟨t1, t2, t3⟩ := T
  unfold FX12_beginText FX12_begin
  refine So_gd (by rcases ho with rfl | rfl <;> rfl) (So_nm ?_)
  generalize hM3 : sI (sI (sI (sI M u 20 (Int32.ofNat o)) u 15 0) u 19 0) u 18 (-1) = M3
  have T3 : TpR B L u M3 := ⟨t1, by rw [← hM3]; simp (disch := omega) only [mI_n1, mI_n2, mI_e, mJ_n1, mJ_n2, mJ_e, mI_sJ, mI_sR, mJ_sI, mJ_sR, mR_sI, mR_sJ]; exact t2, fun k hk => by rw [← hM3]; simp (disch := omega) only [mI_n1, mI_n2, mI_e, mJ_n1, mJ_n2, mJ_e, mI_sJ, mI_sR, mJ_sI, mJ_sR, mR_sI, mR_sJ]; exact t3 k hk⟩
  have nx := next_so (q := 0) T3 (by rw [← hM3]; simp (disch := omega) only [mI_n1, mI_n2, mI_e, mJ_n1, mJ_n2, mJ_e, mI_sJ, mI_sR, mJ_sI, mJ_sR, mR_sI, mR_sJ]; rfl) (by omega)
  obtain ⟨M4, x1, x2⟩ := nx
  refine So.bindE (show _ = some M4 by rw [nmb, nmb, nmb, hM3, ob x1]) (So_nm (So_nm (So_nm (So.ok ?_))))
  obtain ⟨⟨n1, n2, n3, -, -⟩, k1, k2, k3, k4⟩ := x2
  generalize hN : sI (sI (sI M4 u 21 0) u 23 0) u 26 0 = N
  have Eo0 : Eo (fun q => q = u) M N := by
    have w : ∀ (X : Mem) (k : Nat) (v : Int32), Eo (fun q => q = u) X (sI X u k v) := fun X k v => Eo_sI rfl
    rw [← hN]
    refine (Eo.tr (N := M3) ?_ n1).tr (((w _ _ _).tr (w _ _ _)).tr (w _ _ _))
    rw [← hM3]
    exact (((w _ _ _).tr (w _ _ _)).tr (w _ _ _)).tr (w _ _ _)
  have f4 : ∀ k, k ≠ 21 → k ≠ 23 → k ≠ 26 → mI N u k = mI M4 u k := fun k a b c => by rw [← hN]; simp (disch := omega) only [mI_n1, mI_n2, mI_e, mJ_n1, mJ_n2, mJ_e, mI_sJ, mI_sR, mJ_sI, mJ_sR, mR_sI, mR_sJ]
  have f3 : ∀ k, k ≠ 21 → k ≠ 23 → k ≠ 26 → k ≠ 14 → k ≠ 15 → k ≠ 16 → mI N u k = mI M3 u k := fun k a b c d e f => by rw [f4 k a b c, n2 k d e f]
  have f0 : ∀ k, k ∉ ([14, 15, 16, 18, 19, 20, 21, 23, 26] : List Nat) → mI N u k = mI M u k := fun k hk => by
    simp only [List.mem_cons, List.not_mem_nil, or_false, not_or] at hk
    obtain ⟨h14, h15, h16, h18, h19, h20, h21, h23, h26⟩ := hk
    rw [f3 k h21 h23 h26 h14 h15 h16, ← hM3]; simp (disch := omega) only [mI_n1, mI_n2, mI_e, mJ_n1, mJ_n2, mJ_e, mI_sJ, mI_sR, mJ_sI, mJ_sR, mR_sI, mR_sJ]
  have j0 : ∀ k, mJ N u k = mJ M4 u k := fun k => by rw [← hN]; rfl
  refine ⟨⟨Eo0, f0⟩, ⟨⟨t1, by rw [f0 13 (by decide)]; exact t2, fun k hk => by rw [(Eo0 (u + 9) (by omega)).1]; exact t3 k hk⟩, by omega, ⟨by rw [f4 14 (by decide) (by decide) (by decide)]; exact k1, by rw [f4 15 (by decide) (by decide) (by decide)]; exact k2, by rw [f4 16 (by decide) (by decide) (by decide)]; exact k3, by rw [j0]; exact k4⟩, ?_, ?_, by omega, ?_, ?_, by simp, ?_, ho, K.keepE (Eo0 _ (by omega)).2.1 (Eo0 _ (by omega)).2.1 (Eo0 _ (by omega)).2.1 (Eo0 _ (by omega)).2.1⟩, ?_, ?_⟩
  · rw [f3 19 (by decide) (by decide) (by decide) (by decide) (by decide) (by decide), ← hM3]; simp (disch := omega) only [mI_n1, mI_n2, mI_e, mJ_n1, mJ_n2, mJ_e, mI_sJ, mI_sR, mJ_sI, mJ_sR, mR_sI, mR_sJ]
  · rw [← hN]; simp (disch := omega) only [mI_n1, mI_n2, mI_e, mJ_n1, mJ_n2, mJ_e, mI_sJ, mI_sR, mJ_sI, mJ_sR, mR_sI, mR_sJ]; rfl
  · rw [← hN]; simp (disch := omega) only [mI_n1, mI_n2, mI_e, mJ_n1, mJ_n2, mJ_e, mI_sJ, mI_sR, mJ_sI, mJ_sR, mR_sI, mR_sJ]; rfl
  · intro i hi; exact absurd hi (by simp)
  · rw [f3 20 (by decide) (by decide) (by decide) (by decide) (by decide) (by decide), ← hM3]; simp (disch := omega) only [mI_n1, mI_n2, mI_e, mJ_n1, mJ_n2, mJ_e, mI_sJ, mI_sR, mJ_sI, mJ_sR, mR_sI, mR_sJ]
  · rw [← hN]; simp (disch := omega) only [mI_n1, mI_n2, mI_e, mJ_n1, mJ_n2, mJ_e, mI_sJ, mI_sR, mJ_sI, mJ_sR, mR_sI, mR_sJ]
  · rw [f3 18 (by decide) (by decide) (by decide) (by decide) (by decide) (by decide), ← hM3]; simp (disch := omega) only [mI_n1, mI_n2, mI_e, mJ_n1, mJ_n2, mJ_e, mI_sJ, mI_sR, mJ_sI, mJ_sR, mR_sI, mR_sJ]
