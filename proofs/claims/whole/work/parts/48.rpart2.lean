/-! ===== a part that is a number or a word ===== -/
/-- the token at p is a part: the reference's code, the class's code, what is behind it -/
def Leaf (B : Nat → Nat) (L o p op x st w q : Nat) : Prop :=
  (tkK B L p = 2 ∧ tkN B L p ≤ 1000 ∧ op = 0 ∧ x = tkN B L p ∧ st = 0 ∧ w = tkN B L p ∧ q = tkE B L p) ∨
  (o = 0 ∧ ∃ k, k < 6 ∧ isW B L p (([11, 12, 13, 14, 10, 15] : List Nat).getD k 0) ∧ op = k + 1 ∧ x = 0 ∧ st = 1 ∧ w = ([1, 2, 3, 4, 0, 5] : List Nat).getD k 0 ∧ q = tkE B L p) ∨
  (o = 1 ∧ ∃ k, k < 5 ∧ isW B L p (16 + k) ∧ op = k + 1 ∧ x = 0 ∧ st = 1 ∧ w = k ∧ q = tkE B L p) ∨
  (o = 1 ∧ ∃ k, (k = 5 ∨ k = 6) ∧ isW B L p (16 + k) ∧ tkK B L (tkE B L p) = 2 ∧ tkN B L (tkE B L p) ≤ (if k = 5 then 1 else 11) ∧ op = k + 1 ∧ x = tkN B L (tkE B L p) ∧ st = 1 ∧ w = (if k = 5 then 5 else 7) + tkN B L (tkE B L p) ∧ q = tkE B L (tkE B L p))
/-- no part of that kind can be there, or no more of them -/
def LeafB (B : Nat → Nat) (L o p lv f : Nat) : Prop :=
  (f = tkS B L p ∧ (lv = 50 ∨ (¬ (tkK B L p = 2 ∧ tkN B L p ≤ 1000) ∧ (o = 0 → ∀ k, k < 6 → ¬ isW B L p (([11, 12, 13, 14, 10, 15] : List Nat).getD k 0)) ∧ (o = 1 → ∀ k, k < 7 → ¬ isW B L p (16 + k))))) ∨
  (o = 1 ∧ lv < 50 ∧ ∃ k, (k = 5 ∨ k = 6) ∧ isW B L p (16 + k) ∧ ¬ (tkK B L (tkE B L p) = 2 ∧ tkN B L (tkE B L p) ≤ (if k = 5 then 1 else 11)) ∧ f = tkS B L (tkE B L p))
theorem i32_nat (r : Int32) : ∃ x, r = Int32.ofNat x := ⟨r.toBitVec.toNat, by
  apply Int32.toBitVec_inj.mp
  apply BitVec.eq_of_toNat_eq
  show _ = (BitVec.ofNat 32 r.toBitVec.toNat).toNat
  rw [BitVec.toNat_ofNat, Nat.mod_eq_of_lt r.toBitVec.isLt]⟩
theorem number_r {B : Nat → Nat} {L u p lv od hi : Nat} {N : Mem} {C P : List (Nat × Nat)} (lo : Nat) (h : RS B L u N p lv od C P) (hhi : hi ≤ 1000) (hlo : lo ≤ 1000) : So (FX12_number u (Int64.ofNat lo) (Int64.ofNat hi) N) (fun r => PF u N r.2 ∧ ((tkK B L p = 2 ∧ lo ≤ tkN B L p ∧ tkN B L p ≤ hi ∧ lo ≤ 1000 ∧ r.1 = Int32.ofNat (tkN B L p) ∧ RS B L u r.2 (tkE B L p) lv od C P) ∨ (¬ (tkK B L p = 2 ∧ lo ≤ tkN B L p ∧ tkN B L p ≤ hi ∧ lo ≤ 1000) ∧ RB u r.2 (tkS B L p)))) := by
  have hk4 : tkK B L p ≤ 3 := by unfold tkK; split; omega; split; omega; split <;> omega
  obtain ⟨t1, t2, t3, t4⟩ := h.2.2.1
  unfold FX12_number
  refine So_nm (So_jn1R (fun v => (v = 1 ∧ tkK B L p = 2 ∧ lo ≤ tkN B L p ∧ tkN B L p ≤ hi ∧ lo ≤ 1000 ∧ mJ N u 17 = Int64.ofNat (tkN B L p)) ∨ (v = 0 ∧ ¬ (tkK B L p = 2 ∧ lo ≤ tkN B L p ∧ tkN B L p ≤ hi ∧ lo ≤ 1000))) (fun v hv => ?_) (fun j3 hj3 => So_jn0 ?_))
  · rcases hv with ⟨rfl, a1, a2, a3, a4, a5⟩ | ⟨rfl, a1⟩
    · refine So.bind (must_yes h) (fun N1 h1 => So.ok ⟨PF_n h1.1, Or.inl ⟨a1, a2, a3, a4, ?_, h1.2⟩⟩)
      show (mJ N u 17).toInt32 = _
      rw [a5]
      apply Int32.toInt_inj.mp
      rw [Int64.toInt_toInt32, jn_int (by omega), nn_int (by omega), i_bm (by omega) (by omega)]
    · exact So.bind (must_no h) (fun N1 h1 => So.ok ⟨h1.1, Or.inr ⟨a1, h1.2⟩⟩)
  · by_cases k2 : tkK B L p = 2
    · rw [t3, if_neg (fun z => z (by rw [k2]; rfl)), in_eq]
      obtain ⟨n, hn, e1, e2⟩ := t4.2.1 k2
      refine So.bindE rfl ?_
      rw [e1, jn_int (show n < 9223372036854775808 by omega), jn_int (show lo < 9223372036854775808 by omega), jn_int (show hi < 9223372036854775808 by omega)]
      by_cases c : lo ≤ n ∧ n ≤ hi
      · rw [if_pos (show ((lo : Int) ≤ (n : Int) ∧ (n : Int) ≤ (hi : Int)) by omega), if_neg (by decide)]
        have : n = tkN B L p := by omega
        exact hj3 _ (Or.inl ⟨rfl, k2, by omega, by omega, hlo, by rw [e1, this]⟩)
      · rw [if_neg (show ¬ ((lo : Int) ≤ (n : Int) ∧ (n : Int) ≤ (hi : Int)) by omega), if_pos rfl]
        exact hj3 _ (Or.inr ⟨rfl, fun z => by omega⟩)
    · rw [t3, if_pos (show ¬ Int32.ofNat (tkK B L p) = 2 from fun z => k2 ((nn_eq (b := 2) (by omega) (by omega)).mp z))]
      exact hj3 _ (Or.inr ⟨rfl, fun z => k2 z.1⟩)
theorem rpart_so {B : Nat → Nat} {L u p lv od o : Nat} {N : Mem} {C P : List (Nat × Nat)} (h : RS B L u N p lv od C P) (ho : mI N u 20 = Int32.ofNat o) (ho2 : o = 0 ∨ o = 1) (hw : KW u N) : So (FX12_readPart u N) (fun r => PF u N r.2 ∧ ((isG B L p 91 ∧ ((od < 8 ∧ r.1 = 1 ∧ RS B L u r.2 (tkE B L p) lv (od + 1) C (P ++ [(32, 0)])) ∨ (od = 8 ∧ RB u r.2 (tkS B L p)))) ∨ (¬ isG B L p 91 ∧ ((lv < 50 ∧ ∃ op x st w q, Leaf B L o p op x st w q ∧ r.1 = 3 ∧ RS B L u r.2 q (lv + 1) od (C ++ [(op, x)]) P) ∨ ∃ f, LeafB B L o p lv f ∧ RB u r.2 f)))) := by
  have hk4 : tkK B L p ≤ 3 := by unfold tkK; split; omega; split; omega; split <;> omega
  have hTp := h.1
  have hTk := h.2.2.1
  unfold FX12_readPart
  obtain ⟨v, hv, hv2⟩ := isSign_r (c := 91) hTp hTk (by decide)
  rw [show (91 : Int32) = Int32.ofNat 91 from rfl, hv]
  refine So.bindE rfl ?_
  rcases hv2 with ⟨rfl, g⟩ | ⟨rfl, g⟩
  · rw [if_neg (by decide)]
    refine So.bind (open_so (op := 32) h (Or.inr rfl) (by rw [g.1]; decide)) (fun N1 h1 => So.ok ⟨h1.1, Or.inl ⟨g, ?_⟩⟩)
    rcases h1.2 with ⟨a, b⟩ | ⟨a, b⟩
    · exact Or.inl ⟨a, rfl, b⟩
    · exact Or.inr ⟨a, b⟩
  · rw [if_pos rfl]
    -- its word
    refine So_jn1R (fun v => (v = -1 ∧ (o = 0 → ∀ k, k < 6 → ¬ isW B L p (([11, 12, 13, 14, 10, 15] : List Nat).getD k 0)) ∧ (o = 1 → ∀ k, k < 7 → ¬ isW B L p (16 + k))) ∨ (o = 0 ∧ ∃ k, k < 6 ∧ v = Int32.ofNat (k + 1) ∧ isW B L p (([11, 12, 13, 14, 10, 15] : List Nat).getD k 0)) ∨ (o = 1 ∧ ∃ k, k < 7 ∧ v = Int32.ofNat (k + 1) ∧ isW B L p (16 + k))) (fun v2 hv2 => ?_) (fun j3 hj3 => ?_)
    · -- digits
      refine So_jn1R (fun v => (v = 1 ∧ tkK B L p = 2 ∧ tkN B L p ≤ 1000 ∧ mJ N u 17 = Int64.ofNat (tkN B L p)) ∨ (v = 0 ∧ ¬ (tkK B L p = 2 ∧ tkN B L p ≤ 1000))) (fun v5 hv5 => ?_) (fun j6 hj6 => So_jn0 ?_)
      · have fin : ∀ (N1 : Mem) (f : Nat), PF u N N1 → RB u N1 f → LeafB B L o p lv f → (PF u N N1 ∧ ((isG B L p 91 ∧ ((od < 8 ∧ (3 : Int32) = 1 ∧ RS B L u N1 (tkE B L p) lv (od + 1) C (P ++ [(32, 0)])) ∨ (od = 8 ∧ RB u N1 (tkS B L p)))) ∨ (¬ isG B L p 91 ∧ ((lv < 50 ∧ ∃ op x st w q, Leaf B L o p op x st w q ∧ (3 : Int32) = 3 ∧ RS B L u N1 q (lv + 1) od (C ++ [(op, x)]) P) ∨ ∃ f, LeafB B L o p lv f ∧ RB u N1 f)))) := fun N1 f a b c => ⟨a, Or.inr ⟨g, Or.inr ⟨f, c, b⟩⟩⟩
        by_cases h50 : lv = 50
        · -- no more parts
          refine So_jn1R (fun _ => True) (fun v8 _ => ?_) (fun j9 hj9 => So_jn0 ?_)
          · refine So_jn1R (fun _ => True) (fun v11 _ => ?_) (fun j12 hj12 => ?_)
            · refine So_jn1R (fun _ => True) (fun v14 _ => ?_) (fun j15 hj15 => ?_)
              · refine So.bind (leaf_no h (Or.inr h50)) (fun N1 h1 => So_jn1 ?_)
                have ok := fin N1 _ h1.1 h1.2 (Or.inl ⟨rfl, Or.inl h50⟩)
                refine So.ite (fun _ => So.ok ok) (fun _ => So.ite (fun _ => So.ok ok) (fun _ => ?_))
                rw [h1.2.1, if_pos (by decide)]; exact So.ok ok
              · exact So.ite (fun _ => hj15 _ trivial) (fun _ => hj15 _ trivial)
            · exact So.ite (fun _ => hj12 _ trivial) (fun _ => hj12 _ trivial)
          · exact So.ite (fun _ => hj9 _ trivial) (fun _ => So.ite (fun _ => hj9 _ trivial) (fun _ => hj9 _ trivial))
        · have hlv : lv < 50 := by have := h.2.2.2.2.2.1; omega
          have done : ∀ (N1 : Mem) (op x st w q : Nat), PF u N N1 → Leaf B L o p op x st w q → RS B L u N1 q (lv + 1) od (C ++ [(op, x)]) P → (PF u N N1 ∧ ((isG B L p 91 ∧ ((od < 8 ∧ (3 : Int32) = 1 ∧ RS B L u N1 (tkE B L p) lv (od + 1) C (P ++ [(32, 0)])) ∨ (od = 8 ∧ RB u N1 (tkS B L p)))) ∨ (¬ isG B L p 91 ∧ ((lv < 50 ∧ ∃ op x st w q, Leaf B L o p op x st w q ∧ (3 : Int32) = 3 ∧ RS B L u N1 q (lv + 1) od (C ++ [(op, x)]) P) ∨ ∃ f, LeafB B L o p lv f ∧ RB u N1 f)))) := fun N1 op x st w q a b c => ⟨a, Or.inr ⟨g, Or.inl ⟨hlv, op, x, st, w, q, b, rfl, c⟩⟩⟩
          rcases hv2 with ⟨rfl, w1, w2⟩ | hwd
          · -- no word
            rcases hv5 with ⟨rfl, d1, d2, d3⟩ | ⟨rfl, d1⟩
            · refine So_jn1 (So_jn0 ?_)
              rw [if_neg (by decide), if_neg (by decide)]
              refine So_jn1 ?_
              rw [if_neg (by decide)]
              refine So_jn1 ?_
              rw [if_neg (by decide), d3]
              have e32 : (Int64.ofNat (tkN B L p)).toInt32 = Int32.ofNat (tkN B L p) := by
                apply Int32.toInt_inj.mp
                rw [Int64.toInt_toInt32, jn_int (by omega), nn_int (by omega), i_bm (by omega) (by omega)]
              rw [e32]
              refine So.bind (leaf_yes (op := 0) (x := tkN B L p) h (by omega) hlv) (fun N1 h1 => So_jn1 ?_)
              have ok := done N1 0 _ 0 (tkN B L p) (tkE B L p) h1.1 (Or.inl ⟨d1, d2, rfl, rfl, rfl, rfl, rfl⟩) h1.2
              refine So.ite (fun _ => So.ok ok) (fun _ => ?_)
              rw [if_pos (by decide)]; exact So.ok ok
            · refine So_jn1 (So_jn0 ?_)
              rw [if_neg (by decide), if_pos rfl]
              refine So_jn1 ?_
              rw [if_neg (by decide)]
              refine So_jn1 ?_
              rw [if_pos rfl]
              refine So.bind (leaf_no h (Or.inl rfl)) (fun N1 h1 => So_jn1 ?_)
              have ok := fin N1 _ h1.1 h1.2 (Or.inl ⟨rfl, Or.inr ⟨d1, w1, w2⟩⟩)
              refine So.ite (fun _ => So.ok ok) (fun _ => ?_)
              rw [if_pos (by decide)]; exact So.ok ok
          · have hk1 : tkK B L p = 1 := by
              rcases hwd with ⟨_, k, _, _, z⟩ | ⟨_, k, _, _, z⟩ <;> exact z.1
            have d5 : v5 = 0 := by
              rcases hv5 with ⟨_, z, _⟩ | ⟨z, _⟩
              · omega
              · exact z
            obtain ⟨k, hk7, hvk⟩ : ∃ k, k < 7 ∧ v2 = Int32.ofNat (k + 1) := by
              rcases hwd with ⟨_, k, z1, z2, _⟩ | ⟨_, k, z1, z2, _⟩ <;> exact ⟨k, by omega, z2⟩
            have nm1 : ¬ v2 = -1 := fun z => by
              rw [hvk] at z
              have := congrArg Int32.toInt z
              rw [nn_int (by omega), show (-1 : Int32).toInt = -1 from rfl] at this; omega
            refine So_jn1 (So_jn0 ?_)
            rw [if_pos nm1]
            refine So_jn1 ?_
            rw [if_pos nm1]
            refine So_jn1 ?_
            rw [d5, if_pos rfl, hvk]
            refine So.bind (leaf_yes (op := k + 1) (x := 0) h (by omega) hlv) (fun N1 h1 => So_jn1 ?_)
            obtain ⟨p1, r1⟩ := h1
            rw [p1.2.1 20 (by decide), ho]
            rcases hwd with ⟨o0, k', z1, z2, z3⟩ | ⟨o1, k', z1, z2, z3⟩
            · have : k' = k := by have := (nn_eq (by omega) (by omega)).mp (z2.symm.trans hvk); omega
              subst this
              rw [o0, if_pos (by decide)]
              rw [o0] at done
              exact So.ok (o0 ▸ done N1 (k' + 1) 0 1 _ (tkE B L p) p1 (Or.inr (Or.inl ⟨rfl, k', z1, z3, rfl, rfl, rfl, rfl, rfl⟩)) r1)
            · have : k' = k := by have := (nn_eq (by omega) (by omega)).mp (z2.symm.trans hvk); omega
              subst this
              rw [o1, if_neg (by decide)]
              have e6 : (Int32.ofNat (k' + 1) < 6) ↔ k' + 1 < 6 := nn_lt (b := 6) (by omega) (by omega)
              by_cases c6 : k' + 1 < 6
              · rw [if_pos (e6.mpr c6)]
                exact So.ok (o1 ▸ done N1 (k' + 1) 0 1 k' (tkE B L p) p1 (Or.inr (Or.inr (Or.inl ⟨o1, k', by omega, z3, rfl, rfl, rfl, rfl, rfl⟩))) r1)
              · rw [if_neg (fun z => c6 (e6.mp z)), r1.2.2.2.1, if_neg (by decide)]
                refine So_nm (So_jn1R (fun v => v = Int64.ofNat (if k' = 5 then 1 else 11)) (fun v23 hv23 => ?_) (fun j24 hj24 => ?_))
                · subst hv23
                  refine So_bdM (number_r 0 r1 (by split <;> omega) (by omega)) (fun r M hr => ?_)
                  have hcl : mI N1 u 23 = Int32.ofNat (C.length + 1) := by
                    rw [r1.2.2.2.2.2.2.2.2.1.1]; simp
                  have hbd := r1.2.2.2.2.2.2.2.2.2
                  have hsl := tkS_le B r1.2.1
                  have hLL := h.1.1
                  simp only [List.length_append, List.length_cons, List.length_nil] at hbd
                  rw [hcl, show Int32.ofNat (C.length + 1) - 1 = Int32.ofNat C.length from nn_sub (b := 1) (by omega) (by omega), nn_ix (by omega)]
                  refine So_gd (inb_nn (by omega) (by decide)) (So_nm (So.ok ?_))
                  obtain ⟨q1, q2⟩ := hr
                  have F4 : FrU u [] [12] M (sI M (u + 12) C.length r) := FrU_a (by decide) (by decide)
                  have PM : PF u N (sI M (u + 12) C.length r) := (p1.tr q1).tr (PF_f F4 (by decide) (by decide))
                  rcases q2 with ⟨a1, a2, a3, a4, a5, a6⟩ | ⟨a1, a2⟩
                  · have a5' : r = Int32.ofNat (tkN B L (tkE B L p)) := a5
                    subst a5'
                    refine o1 ▸ done _ (k' + 1) (tkN B L (tkE B L p)) 1 _ (tkE B L (tkE B L p)) PM (Or.inr (Or.inr (Or.inr ⟨o1, k', by omega, z3, a1, a3, rfl, rfl, rfl, rfl, rfl⟩))) ?_
                    have cc := a6.2.2.2.2.2.2.2.2.1
                    have hset := cc.2.1.set (k := C.length) (x := tkN B L (tkE B L p)) (by omega)
                    have e1 : (C ++ [(k' + 1, 0)]).set C.length (((C ++ [(k' + 1, 0)]).getD C.length (0, 0)).1, tkN B L (tkE B L p)) = C ++ [(k' + 1, tkN B L (tkE B L p))] := by
                      have hg : (C ++ [(k' + 1, 0)]).getD C.length (0, 0) = (k' + 1, 0) := gD_app_r (X := C) (Y := [(k' + 1, 0)]) (i := 0)
                      rw [hg, List.set_append_right _ _ (Nat.le_refl _), Nat.sub_self]; rfl
                    rw [e1] at hset
                    refine a6.cp F4 (by decide) (by decide) ⟨?_, hset, ?_, ?_, ?_⟩ ?_
                    · rw [mI_sI, if_neg (by omega), cc.1]; simp
                    · rw [mI_sI, if_neg (by omega)]; exact cc.2.2.1
                    · exact cc.2.2.2.1.keep (funext fun k => by rw [mI_sI, if_neg (by omega)]) (funext fun k => by rw [mI_sI, if_neg (by omega)])
                    · intro q hq
                      have := cc.2.2.2.2 q hq
                      simpa using this
                    · have := a6.2.2.2.2.2.2.2.2.2
                      simpa using this
                  · obtain ⟨b1, b2, C2, P2, b3, b4⟩ := a2
                    refine o1 ▸ fin _ (tkS B L (tkE B L p)) PM ⟨?_, ?_, ?_⟩ (Or.inr ⟨o1, hlv, k', by omega, z3, fun z => a1 ⟨z.1, by omega, z.2, by omega⟩, rfl⟩)
                    · rw [mI_sI, if_neg (by omega)]; exact b1
                    · rw [mI_sI, if_neg (by omega)]; exact b2
                    · obtain ⟨x, rfl⟩ := i32_nat r
                      refine ⟨_, P2, ⟨?_, b3.2.1.set (k := C.length) (x := x) (by omega), ?_, ?_, ?_⟩, ?_⟩
                      · rw [mI_sI, if_neg (by omega), List.length_set]; exact b3.1
                      · rw [mI_sI, if_neg (by omega)]; exact b3.2.2.1
                      · exact b3.2.2.2.1.keep (funext fun k => by rw [mI_sI, if_neg (by omega)]) (funext fun k => by rw [mI_sI, if_neg (by omega)])
                      · rw [List.length_set]; exact b3.2.2.2.2
                      · rw [List.length_set]; exact b4
                · by_cases c5 : k' = 5
                  · subst c5
                    rw [if_neg (show ¬ ¬ Int32.ofNat (5 + 1) = 6 by decide)]
                    exact hj24 _ rfl
                  · have : k' = 6 := by omega
                    subst this
                    rw [if_pos (show ¬ Int32.ofNat (6 + 1) = 6 by decide)]
                    exact hj24 _ rfl
      · by_cases k2 : tkK B L p = 2
        · rw [hTk.2.2.1, if_neg (fun z => z (by rw [k2]; rfl))]
          obtain ⟨n, hn, e1, e2⟩ := hTk.2.2.2.2.1 k2
          rw [e1]
          have e3 : ((1000 : Int64) < Int64.ofNat n) ↔ 1000 < n := by
            rw [Int64.lt_iff_toInt_lt, jn_int (by omega), show (1000 : Int64).toInt = 1000 from rfl]; omega
          by_cases c : 1000 < n
          · rw [if_pos (e3.mpr c)]
            exact hj6 _ (Or.inr ⟨rfl, fun z => by omega⟩)
          · rw [if_neg (fun z => c (e3.mp z))]
            exact hj6 _ (Or.inl ⟨rfl, k2, by omega, by rw [e1]; congr 1; omega⟩)
        · rw [hTk.2.2.1, if_pos (show ¬ Int32.ofNat (tkK B L p) = 2 from fun z => k2 ((nn_eq (b := 2) (by omega) (by omega)).mp z))]
          exact hj6 _ (Or.inr ⟨rfl, fun z => k2 z.1⟩)
    · rw [ho]
      rcases ho2 with rfl | rfl
      · rw [if_pos (by decide)]
        have e : FX12_partAt u N = wl2 (fun (v1 : Int32) (v2 : Int32) rec3 => if Int32.ofNat 6 ≤ v2 then some v1 else gd (inb v2 6) <| (FX12_isWord u (mJ N (u + 15) (ix v2)) N).bind fun r7 => jn1 (fun (v8 : Int32) => nm (v2 + 1) fun v11 => rec3 v8 v11) fun j9 => if r7 = 0 then j9 v1 else j9 (v2 + Int32.ofNat 1)) fuel (-1) 0 := rfl
        rw [e]
        refine So.bind (R := fun v => (v = -1 ∧ ∀ k, k < 6 → ¬ isW B L p (([11, 12, 13, 14, 10, 15] : List Nat).getD k 0)) ∨ ∃ k, k < 6 ∧ v = Int32.ofNat (k + 1) ∧ isW B L p (([11, 12, 13, 14, 10, 15] : List Nat).getD k 0)) (wloop (fun k => ([11, 12, 13, 14, 10, 15] : List Nat).getD k 0) hTk (by decide) (by decide) (fun k hk => ⟨?_, hw.1 k hk⟩) (fun v hv => So.ok hv)) (fun v hv => hj3 v ?_)
        · revert k; decide
        · rcases hv with ⟨a, b⟩ | hv
          · exact Or.inl ⟨a, fun _ => b, fun z => absurd z (by decide)⟩
          · exact Or.inr (Or.inl ⟨rfl, hv⟩)
      · rw [if_neg (by decide)]
        have e : FX12_orderPartAt u N = wl2 (fun (v1 : Int32) (v2 : Int32) rec3 => if Int32.ofNat 7 ≤ v2 then some v1 else gd (inb v2 7) <| (FX12_isWord u (mJ N (u + 16) (ix v2)) N).bind fun r7 => jn1 (fun (v8 : Int32) => nm (v2 + 1) fun v11 => rec3 v8 v11) fun j9 => if r7 = 0 then j9 v1 else j9 (v2 + Int32.ofNat 1)) fuel (-1) 0 := rfl
        rw [e]
        refine So.bind (R := fun v => (v = -1 ∧ ∀ k, k < 7 → ¬ isW B L p (16 + k)) ∨ ∃ k, k < 7 ∧ v = Int32.ofNat (k + 1) ∧ isW B L p (16 + k)) (wloop (fun k => 16 + k) hTk (by decide) (by decide) (fun k hk => ⟨by omega, hw.2.1 k hk⟩) (fun v hv => So.ok hv)) (fun v hv => hj3 v ?_)
        rcases hv with ⟨a, b⟩ | hv
        · exact Or.inl ⟨a, fun z => absurd z (by decide), fun _ => b⟩
        · exact Or.inr (Or.inr ⟨rfl, hv⟩)
