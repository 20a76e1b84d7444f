/-! ===== the reference reads a whole sum, a whole test ===== -/
def RE (B : Nat → Nat) (L u o : Nat) (N : Mem) (p lv : Nat) (C : List (Nat × Nat)) : Prop := TpR B L u N ∧ p ≤ L ∧ TkR B L u N p ∧ mI N u 19 = 0 ∧ mI N u 26 = Int32.ofNat lv ∧ lv ≤ 50 ∧ mI N u 23 = Int32.ofNat C.length ∧ lsP N (u + 11) (u + 12) C ∧ C.length ≤ tkS B L p ∧ mI N u 20 = Int32.ofNat o ∧ (o = 0 ∨ o = 1) ∧ KW u N
/-- a fault was found: nothing else matters -/
def Bad (u : Nat) (N : Mem) (f : Nat) : Prop := mI N u 19 = 1 ∧ mI N u 18 = Int32.ofNat f
theorem RE.ctx {B : Nat → Nat} {L u o p lv : Nat} {N : Mem} {C : List (Nat × Nat)} (h : RE B L u o N p lv C) : PF u N (sI (sI N u 29 0) u 30 0) ∧ Ctx B L u o (sI (sI N u 29 0) u 30 0) p lv 0 C [] := by
  obtain ⟨h1, h2, h3, h4, h5, h6, h7, h8, h9, h10, h11, h12⟩ := h
  have F : FrU u [29, 30] [] N (sI (sI N u 29 0) u 30 0) := (FrU_f (by decide)).tr (FrU_f (by decide))
  have P := PF_f F (by decide) (by decide)
  have f : ∀ k, k ≠ 29 → k ≠ 30 → mI (sI (sI N u 29 0) u 30 0) u k = mI N u k := fun k a b => F.2.1 k (by simp [a, b])
  have g : ∀ k, k ≠ 0 → mI (sI (sI N u 29 0) u 30 0) (u + k) = mI N (u + k) := fun k a => (F.1 (u + k) (by omega) (by simp)).1
  refine ⟨P, ⟨⟨h1.1, by rw [f 13 (by decide) (by decide)]; exact h1.2.1, fun k hk => by rw [g 9 (by decide)]; exact h1.2.2 k hk⟩, h2, ⟨by rw [f 14 (by decide) (by decide)]; exact h3.1, by rw [f 15 (by decide) (by decide)]; exact h3.2.1, by rw [f 16 (by decide) (by decide)]; exact h3.2.2.1, h3.2.2.2⟩, by rw [f 19 (by decide) (by decide)]; exact h4, by rw [f 26 (by decide) (by decide)]; exact h5, h6, by rw [mI_sI, if_pos ⟨rfl, rfl⟩]; rfl, by omega, ⟨by rw [f 23 (by decide) (by decide)]; exact h7, h8.keep (g 11 (by decide)) (g 12 (by decide)), by rw [mI_sI, if_neg (by simp), mI_sI, if_pos ⟨rfl, rfl⟩]; rfl, fun i hi => absurd hi (by simp), fun q hq => absurd hq (by simp)⟩, by simpa using h9⟩, by rw [f 20 (by decide) (by decide)]; exact h10, h11, h12.keep P⟩
theorem RE.of {B : Nat → Nat} {L u o p lv od : Nat} {N N' : Mem} {C C' P : List (Nat × Nat)} (h : Ctx B L u o N p lv od C P) (e : FrU u [23, 29] [11, 12] N N') (c : CP u N' C' []) (hl : C'.length ≤ tkS B L p) : RE B L u o N' p lv C' := by
  have r := h.1.cp e (by decide) (by decide) c (by simpa using hl)
  have P := PF_f (u := u) e (by decide) (by decide)
  obtain ⟨h1, h2, h3, h4, h5, h6, h7, h8, h9, h10⟩ := r
  exact ⟨h1, h2, h3, h4, h5, h6, c.1, c.2.1, hl, by rw [P.2.1 20 (by decide)]; exact h.2.1, h.2.2.1, h.2.2.2.keep P⟩
theorem expr_sum {B : Nat → Nat} {L u o p lv p1 lv1 d : Nat} {N : Mem} {C : List (Nat × Nat)} {f : Den} (h : RE B L u o N p lv C) (hs : SSum B L u o 0 p lv 0 p1 lv1 d f) (hno : ∀ op, ¬ OpG B L p1 op) : So (FX12_readExpression u 0 N) (fun N' => PF u N N' ∧ ∃ Y, RE B L u o N' p1 lv1 (C ++ Y) ∧ DR o Y C.length d f) := by
  obtain ⟨P0, c0⟩ := h.ctx
  rw [readExpression_eq, if_pos rfl]
  have hL := h.1.1
  have key : Rn B L u 0 1 (sI (sI N u 29 0) u 30 0) p (fun N' => PF u N N' ∧ ∃ Y, RE B L u o N' p1 lv1 (C ++ Y) ∧ DR o Y C.length d f) := by
    refine hs _ C [] _ c0 (Or.inl rfl) (fun z => absurd z (by decide)) (fun N1 Y R Y' pf c hR hw hD => ?_)
    have hl := c.1.2.2.2.2.2.2.2.2.2
    have hs1 := tkS_le B c.1.2.1
    have hfl := (flushP_len R (C ++ Y)).2
    have hw' : flushP (C ++ Y) R = C ++ Y' := hw
    simp only [List.nil_append, List.length_reverse] at hl
    refine rn_sum c.1.2.2.2.1 ((behindSum_so (tst := 0) (P := []) c.1 hR (Or.inl rfl) (fun z => absurd z (by decide))).mono (fun r hr => ?_))
    obtain ⟨pr, hr⟩ := hr
    rcases hr with ⟨op', R1, R2, o1, _⟩ | ⟨_, hr⟩
    · exact absurd o1 (hno op')
    · rcases hr with ⟨z, _⟩ | ⟨_, _, hr⟩ | ⟨_, z, _⟩
      · exact absurd z (by decide)
      · subst hr
        refine Or.inr ⟨4, p1, rfl, by show 4 * _ + 0 < 4 * _ + 3; omega, ?_⟩
        refine rn_over (R := R) c.1.2.2.2.1 (by simpa using c.1.2.2.2.2.2.2.2.2.1) (by omega) (fun q hq => by have := bind56 (hR q hq); omega) (fun N' e cp => ⟨(P0.tr pf).tr (PF_f e (by decide) (by decide)), Y', ?_, hD⟩)
        rw [hw'] at cp hfl
        exact RE.of c e cp (by omega)
      · exact absurd ⟨rfl, rfl⟩ z
  have hp := tkS_le B h.2.1
  exact key fuel (by show 4 * _ + 1 < fuel; unfold fuel; omega)
theorem expr_sumF {B : Nat → Nat} {L u o p lv pf : Nat} {N : Mem} {C : List (Nat × Nat)} (h : RE B L u o N p lv C) (hs : FSum B L u o 0 p lv 0 pf) : So (FX12_readExpression u 0 N) (fun N' => PF u N N' ∧ Bad u N' pf) := by
  obtain ⟨P0, c0⟩ := h.ctx
  rw [readExpression_eq, if_pos rfl]
  have hL := h.1.1
  have hp := tkS_le B h.2.1
  exact hs _ C [] _ c0 (Or.inl rfl) (fun z => absurd z (by decide)) (fun N1 pf a b => ⟨P0.tr pf, a, b⟩) fuel (by show 4 * _ + 1 < fuel; unfold fuel; omega)
theorem expr_test {B : Nat → Nat} {L u o p lv p1 lv1 d : Nat} {N : Mem} {C : List (Nat × Nat)} {f : Den} (h : RE B L u o N p lv C) (hs : STest B L u o p lv 0 p1 lv1 d f) (n26 : ¬ isW B L p1 26) (n27 : ¬ isW B L p1 27) : So (FX12_readExpression u 1 N) (fun N' => PF u N N' ∧ ∃ Y, RE B L u o N' p1 lv1 (C ++ Y) ∧ DR o Y C.length d f) := by
  obtain ⟨P0, c0⟩ := h.ctx
  rw [readExpression_eq, if_neg (by decide)]
  have hL := h.1.1
  have key : Rn B L u 1 0 (sI (sI N u 29 0) u 30 0) p (fun N' => PF u N N' ∧ ∃ Y, RE B L u o N' p1 lv1 (C ++ Y) ∧ DR o Y C.length d f) := by
    refine hs _ C [] _ c0 (Or.inl rfl) (Or.inl rfl) (fun z => absurd rfl z) (fun N1 Y R Y' pf c hR hw hD => ?_)
    have hl := c.1.2.2.2.2.2.2.2.2.2
    have hs1 := tkS_le B c.1.2.1
    have hfl := (flushP_len R (C ++ Y)).2
    have hw' : flushP (C ++ Y) R = C ++ Y' := hw
    simp only [List.nil_append, List.length_reverse] at hl
    refine rn_test c.1.2.2.2.1 ((behindTest_so (P := []) c.1 hR (Or.inl rfl) (fun z => absurd rfl z)).mono (fun r hr => ?_))
    obtain ⟨pr, hr⟩ := hr
    rcases hr with ⟨z, _⟩ | ⟨z, _⟩ | ⟨_, _, ⟨_, hr⟩ | ⟨z, _⟩⟩
    · exact absurd z n27
    · exact absurd z n26
    · subst hr
      refine Or.inr ⟨4, p1, rfl, by show 4 * _ + 0 < 4 * _ + 2; omega, ?_⟩
      refine rn_over (R := R) c.1.2.2.2.1 (by simpa using c.1.2.2.2.2.2.2.2.2.1) (by omega) hR (fun N' e cp => ⟨(P0.tr pf).tr (PF_f e (by decide) (by decide)), Y', ?_, hD⟩)
      rw [hw'] at cp hfl
      exact RE.of c e cp (by omega)
    · exact absurd rfl z
  have hp := tkS_le B h.2.1
  exact key fuel (by show 4 * _ + 1 < fuel; unfold fuel; omega)
theorem expr_testF {B : Nat → Nat} {L u o p lv pf : Nat} {N : Mem} {C : List (Nat × Nat)} (h : RE B L u o N p lv C) (hs : FTest B L u o p lv 0 pf) : So (FX12_readExpression u 1 N) (fun N' => PF u N N' ∧ Bad u N' pf) := by
  obtain ⟨P0, c0⟩ := h.ctx
  rw [readExpression_eq, if_neg (by decide)]
  have hL := h.1.1
  have hp := tkS_le B h.2.1
  exact hs _ C [] _ c0 (Or.inl rfl) (Or.inl rfl) (fun z => absurd rfl z) (fun N1 pf a b => ⟨P0.tr pf, a, b⟩) fuel (by show 4 * _ + 1 < fuel; unfold fuel; omega)
/-! the reference's marks of clauses -/
def ML (u a : Nat) (M N : Mem) : Prop := (∀ q, q ≠ u → q ≠ u + 11 → q ≠ u + 12 → q ≠ u + 13 → q ≠ u + 14 → q ≠ u + a → Ea M N q) ∧ (∀ k, k ∉ ([14, 15, 16, 18, 19, 21, 23, 26, 29, 30] : List Nat) → mI N u k = mI M u k) ∧ (∀ k, k ≠ 17 → mJ N u k = mJ M u k) ∧ mR N u = mR M u ∧ mN N u = mN M u ∧ mJ N (u + a) = mJ M (u + a) ∧ mR N (u + a) = mR M (u + a) ∧ mN N (u + a) = mN M (u + a)
theorem ML.rf {u a : Nat} {M : Mem} : ML u a M M := ⟨fun q _ _ _ _ _ _ => Ea.rf M q, fun _ _ => rfl, fun _ _ => rfl, rfl, rfl, rfl, rfl, rfl⟩
theorem ML.tr {u a : Nat} {M N K : Mem} (x : ML u a M N) (y : ML u a N K) : ML u a M K := ⟨fun q h0 h1 h2 h3 h4 h5 => (x.1 q h0 h1 h2 h3 h4 h5).tr (y.1 q h0 h1 h2 h3 h4 h5), fun k h => (y.2.1 k h).trans (x.2.1 k h), fun k h => (y.2.2.1 k h).trans (x.2.2.1 k h), y.2.2.2.1.trans x.2.2.2.1, y.2.2.2.2.1.trans x.2.2.2.2.1, y.2.2.2.2.2.1.trans x.2.2.2.2.2.1, y.2.2.2.2.2.2.1.trans x.2.2.2.2.2.2.1, y.2.2.2.2.2.2.2.trans x.2.2.2.2.2.2.2⟩
theorem ML_p {u a : Nat} {M N : Mem} (h : PF u M N) (ha : 15 ≤ a) : ML u a M N ∨ True := Or.inr trivial
theorem PF.ml {u a : Nat} {M N : Mem} (h : PF u M N) (ha : a = 10 ∨ 15 ≤ a) : ML u a M N := by
  have ea := h.1 (u + a) (by omega) (by omega) (by omega) (by omega) (by omega)
  exact ⟨fun q h0 h1 h2 h3 h4 _ => h.1 q h0 h1 h2 h3 h4, fun k hk => h.2.1 k (fun z => hk (by simp only [List.mem_cons, List.not_mem_nil, or_false] at z ⊢; omega)), h.2.2.1, h.2.2.2.1, h.2.2.2.2, ea.2.1, ea.2.2.1, ea.2.2.2⟩
theorem ML_c {u a k : Nat} {M : Mem} {v : Int32} (ha : a ≠ 0) : ML u a M (sI M (u + a) k v) := ⟨fun q _ _ _ _ _ h5 => Ea_sI h5, fun j _ => by rw [mI_sI, if_neg (by omega)], fun _ _ => rfl, rfl, rfl, rfl, rfl, rfl⟩
theorem ML_21 {u a : Nat} {M : Mem} {v : Int32} : ML u a M (sI M u 21 v) := ⟨fun q h0 _ _ _ _ _ => Ea_sI h0, fun j hj => by rw [mI_sI, if_neg (fun z : u = u ∧ j = 21 => hj (by rw [z.2]; decide))], fun _ _ => rfl, rfl, rfl, rfl, rfl, rfl⟩
/-- a mark leaves the reader as it was -/
theorem RE.mark {B : Nat → Nat} {L u o p lv a k : Nat} {N : Mem} {C : List (Nat × Nat)} {v : Int32} (h : RE B L u o N p lv C) (ha : a = 10 ∨ a = 40) : RE B L u o (sI N (u + a) k v) p lv C := by
  obtain ⟨h1, h2, h3, h4, h5, h6, h7, h8, h9, h10, h11, h12⟩ := h
  have f : ∀ j, mI (sI N (u + a) k v) u j = mI N u j := fun j => by rw [mI_sI, if_neg (by omega)]
  have g : ∀ q, q ≠ u + a → mI (sI N (u + a) k v) q = mI N q := fun q hq => (Ea_sI hq).1
  exact ⟨⟨h1.1, by rw [f]; exact h1.2.1, fun j hj => by rw [g _ (by omega)]; exact h1.2.2 j hj⟩, h2, ⟨by rw [f]; exact h3.1, by rw [f]; exact h3.2.1, by rw [f]; exact h3.2.2.1, h3.2.2.2⟩, by rw [f]; exact h4, by rw [f]; exact h5, h6, by rw [f]; exact h7, h8.keep (g _ (by omega)) (g _ (by omega)), h9, by rw [f]; exact h10, h11, h12⟩
theorem RE.m21 {B : Nat → Nat} {L u o p lv : Nat} {N : Mem} {C : List (Nat × Nat)} {v : Int32} (h : RE B L u o N p lv C) : RE B L u o (sI N u 21 v) p lv C := by
  obtain ⟨h1, h2, h3, h4, h5, h6, h7, h8, h9, h10, h11, h12⟩ := h
  have f : ∀ j, j ≠ 21 → mI (sI N u 21 v) u j = mI N u j := fun j hj => by rw [mI_sI, if_neg (fun z => hj z.2)]
  have g : ∀ q, q ≠ u → mI (sI N u 21 v) q = mI N q := fun q hq => (Ea_sI hq).1
  exact ⟨⟨h1.1, by rw [f 13 (by decide)]; exact h1.2.1, fun j hj => by rw [g _ (by omega)]; exact h1.2.2 j hj⟩, h2, ⟨by rw [f 14 (by decide)]; exact h3.1, by rw [f 15 (by decide)]; exact h3.2.1, by rw [f 16 (by decide)]; exact h3.2.2.1, h3.2.2.2⟩, by rw [f 19 (by decide)]; exact h4, by rw [f 26 (by decide)]; exact h5, h6, by rw [f 23 (by decide)]; exact h7, h8.keep (g _ (by omega)) (g _ (by omega)), h9, by rw [f 20 (by decide)]; exact h10, h11, h12⟩
theorem next_re {B : Nat → Nat} {L u o p lv : Nat} {N : Mem} {C : List (Nat × Nat)} (h : RE B L u o N p lv C) : So (FX12_next u N) (fun N' => PF u N N' ∧ RE B L u o N' (tkE B L p) lv C) := by
  obtain ⟨h1, h2, h3, h4, h5, h6, h7, h8, h9, h10, h11, h12⟩ := h
  refine (next_so h1 h3.2.1 (tkE_le B h2)).mono (fun N' hN => ?_)
  obtain ⟨e, t⟩ := hN
  have hm := tkS_mono B h2
  exact ⟨PF_n e, h1.keep e, tkE_le B h2, t, by rw [e.2.1 19 (by decide) (by decide) (by decide)]; exact h4, by rw [e.2.1 26 (by decide) (by decide) (by decide)]; exact h5, h6, by rw [e.2.1 23 (by decide) (by decide) (by decide)]; exact h7, h8.keep (e.1 _ (by omega)).1 (e.1 _ (by omega)).1, by omega, by rw [e.2.1 20 (by decide) (by decide) (by decide)]; exact h10, h11, h12.keep (PF_n e)⟩
theorem must_re {B : Nat → Nat} {L u o p lv : Nat} {N : Mem} {C : List (Nat × Nat)} (h : RE B L u o N p lv C) (v : Int32) : So (FX12_must u v N) (fun N' => PF u N N' ∧ ((v ≠ 0 ∧ RE B L u o N' (tkE B L p) lv C) ∨ (v = 0 ∧ Bad u N' (tkS B L p)))) := by
  have h19 := h.2.2.2.1
  unfold FX12_must
  refine So_jn1 ?_
  rw [h19, if_neg (by decide)]
  by_cases c : v = 0
  · rw [if_neg (fun z => z c)]
    refine So_nm (So_nm (So_jn1 ?_))
    have e14 : mI (sI N u 19 1) u 14 = Int32.ofNat (tkS B L p) := by rw [mI_sI, if_neg (by simp)]; exact h.2.2.1.1
    rw [e14]
    have e19 : mI (sI (sI N u 19 1) u 18 (Int32.ofNat (tkS B L p))) u 19 = 1 := by rw [mI_sI, if_neg (by simp), mI_sI, if_pos ⟨rfl, rfl⟩]
    rw [e19, if_pos (by decide)]
    have F : FrU u [18, 19] [] N (sI (sI N u 19 1) u 18 (Int32.ofNat (tkS B L p))) := (FrU_f (by decide)).tr (FrU_f (by decide))
    exact So.ok ⟨PF_f F (by decide) (by decide), Or.inr ⟨c, e19, by rw [mI_sI, if_pos ⟨rfl, rfl⟩]⟩⟩
  · rw [if_pos c]
    refine So_jn1 ?_
    rw [h19, if_neg (by decide)]
    exact So.bind (next_re h) (fun N' hN => So.ok ⟨hN.1, Or.inl ⟨c, hN.2⟩⟩)
