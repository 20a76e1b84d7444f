/-! ===== the reference's reader goes on: by continuations ===== -/
def PF (u : Nat) (M N : Mem) : Prop := (∀ a, a ≠ u → a ≠ u + 11 → a ≠ u + 12 → a ≠ u + 13 → a ≠ u + 14 → Ea M N a) ∧ (∀ k, k ∉ ([14, 15, 16, 18, 19, 23, 26, 29, 30] : List Nat) → mI N u k = mI M u k) ∧ (∀ k, k ≠ 17 → mJ N u k = mJ M u k) ∧ mR N u = mR M u ∧ mN N u = mN M u
theorem PF.rf {u : Nat} {M : Mem} : PF u M M := ⟨fun a _ _ _ _ _ => Ea.rf M a, fun _ _ => rfl, fun _ _ => rfl, rfl, rfl⟩
theorem PF.tr {u : Nat} {M N K : Mem} (a : PF u M N) (b : PF u N K) : PF u M K := ⟨fun q h0 h1 h2 h3 h4 => (a.1 q h0 h1 h2 h3 h4).tr (b.1 q h0 h1 h2 h3 h4), fun k h => (b.2.1 k h).trans (a.2.1 k h), fun k h => (b.2.2.1 k h).trans (a.2.2.1 k h), b.2.2.2.1.trans a.2.2.2.1, b.2.2.2.2.trans a.2.2.2.2⟩
theorem PF_n {u : Nat} {M N : Mem} (h : NxE u M N) : PF u M N := ⟨fun a h0 _ _ _ _ => h.1 a h0, fun k hk => h.2.1 k (fun z => hk (by rw [z]; decide)) (fun z => hk (by rw [z]; decide)) (fun z => hk (by rw [z]; decide)), h.2.2.1, h.2.2.2.1, h.2.2.2.2⟩
theorem PF_f {u : Nat} {F A : List Nat} {M N : Mem} (h : FrU u F A M N) (hF : ∀ k, k ∈ F → k ∈ ([14, 15, 16, 18, 19, 23, 26, 29, 30] : List Nat)) (hA : ∀ k, k ∈ A → k ∈ ([11, 12, 13, 14] : List Nat)) : PF u M N := ⟨fun a h0 h1 h2 h3 h4 => h.1 a h0 (fun o ho => by
    have := hA o ho
    simp only [List.mem_cons, List.not_mem_nil, or_false] at this
    rcases this with z | z | z | z <;> rw [z] <;> assumption), fun k hk => h.2.1 k (fun z => hk (hF k z)), fun k _ => by rw [h.2.2.1], h.2.2.2.1, h.2.2.2.2⟩
theorem CP_n {u : Nat} {M N : Mem} {C P : List (Nat × Nat)} (h : CP u M C P) (e : NxE u M N) : CP u N C P := ⟨by rw [e.2.1 23 (by decide) (by decide) (by decide)]; exact h.1, h.2.1.keep (e.1 _ (by omega)).1 (e.1 _ (by omega)).1, by rw [e.2.1 29 (by decide) (by decide) (by decide)]; exact h.2.2.1, h.2.2.2.1.keep (e.1 _ (by omega)).1 (e.1 _ (by omega)).1, h.2.2.2.2⟩
def stepE (t : Nat) (p1 : Int32) (v6 : Int32) (M7 : Mem) (rec8 : Int32 → Mem → Option Mem) : Option Mem :=
      jn0 (
        (FX12_settle t 1 M7).bind fun M12 =>
        some M12) fun j10 =>
      if ¬ (mI M7 t 19) = 0 then
        j10
      else
      if v6 = 4 then
        j10
      else
      jn2 (fun (v13 : Int32) (M14 : Mem) =>
        rec8 v13 M14) fun j15 =>
      if ¬ v6 = 0 then
        if ¬ v6 = 1 then
          if ¬ v6 = 3 then
            bdM (FX12_behindTest t M7) fun r18 M17 =>
            j15 r18 M17
          else
          bdM (FX12_behindSum t p1 M7) fun r20 M19 =>
          j15 r20 M19
        else
        bdM (FX12_readPart t M7) fun r22 M21 =>
        j15 r22 M21
      else
      bdM (FX12_readPlain t M7) fun r24 M23 =>
      j15 r24 M23
theorem readExpression_eq (t : Nat) (p1 : Int32) (M : Mem) : FX12_readExpression t p1 M = wl2 (stepE t p1) fuel (if p1 = 0 then 1 else 0) (sI (sI M t 29 0) t 30 0) := by
  unfold FX12_readExpression nm jn1
  simp only []
  by_cases h : p1 = 0
  · rw [if_pos h, if_pos h]; rfl
  · rw [if_neg h, if_neg h]; rfl
def RS (B : Nat → Nat) (L u : Nat) (N : Mem) (p lv od : Nat) (C P : List (Nat × Nat)) : Prop := TpR B L u N ∧ p ≤ L ∧ TkR B L u N p ∧ mI N u 19 = 0 ∧ mI N u 26 = Int32.ofNat lv ∧ lv ≤ 50 ∧ mI N u 30 = Int32.ofNat od ∧ od ≤ 8 ∧ CP u N C P ∧ C.length + P.length ≤ tkS B L p
def wX (x : Nat) : Nat := if x = 3 then 3 else if x = 2 then 2 else if x = 4 then 0 else 1
def Rn (B : Nat → Nat) (L u : Nat) (tst : Int32) (x : Nat) (N : Mem) (p : Nat) (Q : Mem → Prop) : Prop := ∀ n, 4 * (L - tkS B L p) + wX x < n → So (wl2 (stepE u tst) n (Int32.ofNat x) N) Q
theorem bot_split (least : Nat) : ∀ R : List (Nat × Nat), ∃ P Q, R = Q ++ P ∧ (∀ q, q ∈ Q → least ≤ bindP q.1) ∧ (P = [] ∨ ∃ a P', P = a :: P' ∧ bindP a.1 < least)
  | [] => ⟨[], [], rfl, fun q hq => absurd hq (by simp), Or.inl rfl⟩
  | a :: R => by
    by_cases h : least ≤ bindP a.1
    · obtain ⟨P, Q, h1, h2, h3⟩ := bot_split least R
      refine ⟨P, a :: Q, by rw [h1]; rfl, fun q hq => ?_, h3⟩
      rcases List.mem_cons.mp hq with z | z
      · rw [z]; exact h
      · exact h2 q z
    · exact ⟨a :: R, [], rfl, fun q hq => absurd hq (by simp), Or.inr ⟨a, R, rfl, by omega⟩⟩
theorem last_rev (a : Nat × Nat) (P : List (Nat × Nat)) : ((a :: P).reverse).getD ((a :: P).reverse.length - 1) (0, 0) = a := by
  rw [List.reverse_cons]
  have := gD_app_r (X := P.reverse) (Y := [a]) (i := 0)
  simp only [List.length_append, List.length_reverse, List.length_cons, List.length_nil, Nat.add_zero] at this ⊢
  rw [show P.length + (0 + 1) - 1 = P.length by omega, this]; rfl
theorem settle_any {u least : Nat} {N : Mem} {C P : List (Nat × Nat)} (h : CP u N C P) (hl : C.length + P.length ≤ 400) (hle : least < 8) : So (FX12_settle u (Int32.ofNat least) N) (fun N' => FrU u [23, 29] [11, 12] N N') := by
  obtain ⟨P1, Q, h1, h2, h3⟩ := bot_split least P.reverse
  have hP : P = P1.reverse ++ Q.reverse := by
    rw [← List.reverse_append, ← h1, List.reverse_reverse]
  rw [hP] at h
  refine (settle_so h ?_ h2 ?_ hle).mono (fun N' hN => hN.1)
  · rw [hP] at hl; simp only [List.length_append, List.length_reverse] at hl ⊢; omega
  · rcases h3 with rfl | ⟨a, P', rfl, ha⟩
    · exact Or.inl rfl
    · refine Or.inr ?_
      rw [last_rev]; exact ha
/-- a fault was found -/
def RB (u : Nat) (N : Mem) (f : Nat) : Prop := mI N u 19 = 1 ∧ mI N u 18 = Int32.ofNat f ∧ ∃ C P, CP u N C P ∧ C.length + P.length ≤ 400
def QB (u : Nat) (M : Mem) (f : Nat) (Q : Mem → Prop) : Prop := ∀ N, PF u M N → mI N u 19 = 1 → mI N u 18 = Int32.ofNat f → Q N
theorem QB.tr {u f : Nat} {M N : Mem} {Q : Mem → Prop} (h : QB u M f Q) (e : PF u M N) : QB u N f Q := fun K hK a b => h K (e.tr hK) a b
theorem rn_bad {u f n : Nat} {tst x : Int32} {N : Mem} {Q : Mem → Prop} (h : RB u N f) (hQ : QB u N f Q) (hn : 0 < n) : So (wl2 (stepE u tst) n x N) Q := by
  obtain ⟨h1, h2, C, P, h3, h4⟩ := h
  cases n with
  | zero => omega
  | succ n =>
    show So (stepE u tst x N (wl2 (stepE u tst) n)) Q
    unfold stepE
    refine So_jn0 ?_
    rw [h1, if_pos (by decide)]
    refine So.bind (settle_any (least := 1) h3 h4 (by decide)) (fun N' hN => So.ok (hQ N' (PF_f hN (by decide) (by decide)) ?_ ?_))
    · rw [hN.2.1 19 (by decide)]; exact h1
    · rw [hN.2.1 18 (by decide)]; exact h2
/-- what a step of the reader may come to -/
def Go (B : Nat → Nat) (L u : Nat) (tst : Int32) (x : Nat) (p : Nat) (Q : Mem → Prop) (r : Int32 × Mem) : Prop := (∃ f, RB u r.2 f ∧ QB u r.2 f Q) ∨ ∃ x' p', r.1 = Int32.ofNat x' ∧ 4 * (L - tkS B L p') + wX x' < 4 * (L - tkS B L p) + wX x ∧ Rn B L u tst x' r.2 p' Q
theorem go_rec {B : Nat → Nat} {L u x p n : Nat} {tst : Int32} {Q : Mem → Prop} {r : Int32 × Mem} (h : Go B L u tst x p Q r) (hn : 4 * (L - tkS B L p) + wX x < n + 1) (hx : x ≠ 4) : So (wl2 (stepE u tst) n r.1 r.2) Q := by
  have hw : 0 < wX x := by unfold wX; (repeat' split) <;> omega
  rcases h with ⟨f, h1, h2⟩ | ⟨x', p', h1, h2, h3⟩
  · exact rn_bad h1 h2 (by omega)
  · rw [h1]; exact h3 n (by omega)
theorem rn_part {B : Nat → Nat} {L u p : Nat} {tst : Int32} {N : Mem} {Q : Mem → Prop} (h19 : mI N u 19 = 0) (h : So (FX12_readPart u N) (Go B L u tst 1 p Q)) : Rn B L u tst 1 N p Q := by
  intro n hn
  cases n with
  | zero => omega
  | succ n =>
    show So (stepE u tst (Int32.ofNat 1) N (wl2 (stepE u tst) n)) Q
    unfold stepE
    refine So_jn0 ?_
    rw [h19, if_neg (by decide), if_neg (by decide)]
    refine So_jn2 ?_
    rw [if_pos (by decide), if_neg (by decide)]
    exact So_bdM h (fun r M hr => go_rec (r := (r, M)) hr hn (by decide))
theorem rn_plain {B : Nat → Nat} {L u p : Nat} {tst : Int32} {N : Mem} {Q : Mem → Prop} (h19 : mI N u 19 = 0) (h : So (FX12_readPlain u N) (Go B L u tst 0 p Q)) : Rn B L u tst 0 N p Q := by
  intro n hn
  cases n with
  | zero => omega
  | succ n =>
    show So (stepE u tst (Int32.ofNat 0) N (wl2 (stepE u tst) n)) Q
    unfold stepE
    refine So_jn0 ?_
    rw [h19, if_neg (by decide), if_neg (by decide)]
    refine So_jn2 ?_
    rw [if_neg (by decide)]
    exact So_bdM h (fun r M hr => go_rec (r := (r, M)) hr hn (by decide))
theorem rn_sum {B : Nat → Nat} {L u p : Nat} {tst : Int32} {N : Mem} {Q : Mem → Prop} (h19 : mI N u 19 = 0) (h : So (FX12_behindSum u tst N) (Go B L u tst 3 p Q)) : Rn B L u tst 3 N p Q := by
  intro n hn
  cases n with
  | zero => omega
  | succ n =>
    show So (stepE u tst (Int32.ofNat 3) N (wl2 (stepE u tst) n)) Q
    unfold stepE
    refine So_jn0 ?_
    rw [h19, if_neg (by decide), if_neg (by decide)]
    refine So_jn2 ?_
    rw [if_pos (by decide), if_pos (by decide), if_neg (by decide)]
    exact So_bdM h (fun r M hr => go_rec (r := (r, M)) hr hn (by decide))
theorem rn_test {B : Nat → Nat} {L u p : Nat} {tst : Int32} {N : Mem} {Q : Mem → Prop} (h19 : mI N u 19 = 0) (h : So (FX12_behindTest u N) (Go B L u tst 2 p Q)) : Rn B L u tst 2 N p Q := by
  intro n hn
  cases n with
  | zero => omega
  | succ n =>
    show So (stepE u tst (Int32.ofNat 2) N (wl2 (stepE u tst) n)) Q
    unfold stepE
    refine So_jn0 ?_
    rw [h19, if_neg (by decide), if_neg (by decide)]
    refine So_jn2 ?_
    rw [if_pos (by decide), if_pos (by decide), if_pos (by decide)]
    exact So_bdM h (fun r M hr => go_rec (r := (r, M)) hr hn (by decide))
/-- it is over: all that waits is settled -/
theorem rn_over {B : Nat → Nat} {L u p : Nat} {tst : Int32} {N : Mem} {Q : Mem → Prop} {C R : List (Nat × Nat)} (h19 : mI N u 19 = 0) (hC : CP u N C R.reverse) (hl : C.length + R.length ≤ 400) (hR : ∀ q, q ∈ R → 1 ≤ bindP q.1) (hQ : ∀ N', FrU u [23, 29] [11, 12] N N' → CP u N' (flushP C R) [] → Q N') : Rn B L u tst 4 N p Q := by
  intro n hn
  cases n with
  | zero => omega
  | succ n =>
    show So (stepE u tst (Int32.ofNat 4) N (wl2 (stepE u tst) n)) Q
    unfold stepE
    refine So_jn0 ?_
    rw [h19, if_neg (by decide), if_pos (by decide)]
    exact So.bind (settle_so (least := 1) (P := []) hC (by simp only [List.length_nil]; omega) hR (Or.inl rfl) (by decide)) (fun N' hN => So.ok (hQ N' hN.1 hN.2))
