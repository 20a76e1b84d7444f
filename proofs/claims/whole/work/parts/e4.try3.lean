/-! ===== all plays of a frame ===== -/
theorem wl2_s {τ : Type} {step : Int32 → Mem → (Int32 → Mem → Option τ) → Option τ} {m : Nat} {a : Int32} {A : Mem} : wl2 step (m + 1) a A = step a A (fun x y => wl2 step m x y) := rfl
theorem neg_le {a b : Int32} (ha : -2147483647 ≤ a.toInt) (hb : -2147483647 ≤ b.toInt) : (-a).toInt = - a.toInt ∧ (-b).toInt = - b.toInt := ⟨i_neg (by omega), i_neg (by omega)⟩
/-- one more card: what is taken -/
theorem best_more {r : Nat → Int32} {f : Nat → Int} {o : Option (Int × Nat)} {c : Nat} {bc ba v : Int32} (hbc : bc = bcE o) (hba : baO r ba o) (hx : ∀ mx, o = some mx → mx.2 < 52) (hv : v.toInt = if r 14 = 0 then f c else - f c) : (btr (r 14) bc ba v → bcE (bstep f o c) = Int32.ofNat c ∧ baO r v (bstep f o c)) ∧ (¬ btr (r 14) bc ba v → bcE (bstep f o c) = bc ∧ baO r ba (bstep f o c)) := by
  cases o with
  | none =>
    refine ⟨fun _ => ⟨rfl, hv⟩, fun q => absurd (Or.inl hbc) q⟩
  | some mx =>
    have hba : ba.toInt = if r 14 = 0 then mx.1 else - mx.1 := hba
    have n1 : bc ≠ -1 := fun q => by
      rw [hbc] at q
      have q : Int32.ofNat mx.2 = -1 := q
      have := congrArg Int32.toInt q
      rw [nn_int (by have := hx mx rfl; omega), show (-1 : Int32).toInt = -1 from rfl] at this; omega
    have e : btr (r 14) bc ba v ↔ mx.1 < f c := by
      unfold btr
      rw [Int32.le_iff_toInt_le, Int32.le_iff_toInt_le]
      by_cases z : r 14 = 0
      · rw [if_pos z] at hv hba
        rw [hv, hba]
        constructor
        · rintro (q | q | q)
          · exact absurd q n1
          · have := q.2; omega
          · exact absurd z q.1
        · exact fun q => Or.inr (Or.inl ⟨z, by omega⟩)
      · rw [if_neg z] at hv hba
        rw [hv, hba]
        constructor
        · rintro (q | q | q)
          · exact absurd q n1
          · exact absurd q.1 z
          · have := q.2; omega
        · exact fun q => Or.inr (Or.inr ⟨z, by omega⟩)
    refine ⟨fun q => ?_, fun q => ?_⟩
    · have w := e.mp q
      have : bstep f (some mx) c = some (f c, c) := if_pos w
      rw [this]; exact ⟨rfl, hv⟩
    · have w : ¬ mx.1 < f c := fun y => q (e.mpr y)
      have : bstep f (some mx) c = some mx := if_neg w
      rw [this]; exact ⟨hbc.symm, hba⟩
theorem frame_r {u n : Nat} {I : Nat → CI} {deal mood : Int32} {Q : Mem → Prop} : ∀ (k d : Nat) (r : Nat → Int32) (M0 : Mem) (nn : Nat), d + k = 8 → GO r → unp r ≤ k → (d = 0 ∨ r 14 = -1 ∨ plL I n deal mood r ≠ []) → (r 8 = deal ∧ ∀ K, TdE u M0 K → mI K (u + 2) 8 = deal → RL u n I deal mood K) → FrD u d r M0 M0 (-1) (-1) 0 → (∀ X m, nn ≤ m → Exh I n deal mood u d k r M0 X → So (wl2 (tstep u) m (Int32.ofNat d) X) Q) → ∀ m, nn + cst k ≤ m → So (wl2 (tstep u) m (Int32.ofNat d) M0) Q := by
  intro k
  induction k with
  | zero =>
    intro d r M0 nn hd hG hun hne hRL hF hQ m hm
    have h14 : r 14 = -1 := by
      apply Classical.byContradiction
      intro q
      exact (hne.resolve_left (by omega)).resolve_left q (unp_nil hG q (by omega))
    refine hQ M0 m (by show nn ≤ m; have : cst 0 = 0 := rfl; omega) ⟨0, -1, 0, Nat.zero_le _, Or.inl h14, hF, ?_, fun q => absurd h14 q, fun mx q => absurd h14 q⟩
    rw [if_neg (by rw [h14]; decide)]; rfl
  | succ k ih =>
    intro d r M0 nn hd hG hun hne hRL hF hQ m hm
    have hcst : cst (k + 1) = 4 * (2 + cst k) := rfl
    by_cases h14 : r 14 = -1
    · refine hQ M0 m (by omega) ⟨0, -1, 0, Nat.zero_le _, Or.inl h14, hF, ?_, fun q => absurd h14 q, fun mx q => absurd h14 q⟩
      rw [if_neg (by rw [h14]; decide), bv_s, if_pos h14]; rfl
    obtain ⟨p, p1, p2, p3⟩ := hG.tn h14
    have hl4 := hG.four (I := I) (n := n) (deal := deal) (mood := mood) h14
    have hmem : ∀ i, i < (plL I n deal mood r).length → (plL I n deal mood r).getD i 0 ∈ plL I n deal mood r := fun i hi => getD_mem hi
    -- the cards one by one
    have go : ∀ (j i : Nat) (X : Mem) (ba : Int32), i + j = (plL I n deal mood r).length → FrD u d r M0 X (caE (plL I n deal mood r) i) (bcE (bst (ah I n deal mood k r) ((plL I n deal mood r).take i))) ba → baO r ba (bst (ah I n deal mood k r) ((plL I n deal mood r).take i)) → ∀ m, nn + j * (2 + cst k) ≤ m → So (wl2 (tstep u) m (Int32.ofNat d) X) Q := by
      intro j
      induction j with
      | zero =>
        intro i X ba hij hX hba m hm
        have hi : i = (plL I n deal mood r).length := by omega
        rw [hi, List.take_length] at hX hba
        refine hQ X m (by omega) ⟨(plL I n deal mood r).length, _, ba, Nat.le_refl _, Or.inr rfl, hX, ?_, fun _ q => by rw [q]; rfl, fun mx _ q => by
          have q : bst (ah I n deal mood k r) (plL I n deal mood r) = some mx := q
          rw [q]; rfl⟩
        rw [bv_s, if_neg h14]
        cases hb : bst (ah I n deal mood k r) (plL I n deal mood r) with
        | none =>
          rw [hb] at hba
          have hba : ba = 0 := hba
          rw [hba]
          show (0 : Int32).toInt = if r 14 = 0 then 0 else - 0
          split <;> rfl
        | some mx => rw [hb] at hba; exact hba
      | succ j ihj =>
        intro i X ba hij hX hba m hm
        have hi : i < (plL I n deal mood r).length := by omega
        have hjm : (j + 1) * (2 + cst k) = j * (2 + cst k) + (2 + cst k) := Nat.succ_mul _ _
        obtain ⟨m, rfl⟩ : ∃ m', m = m' + 1 := ⟨m - 1, by omega⟩
        rw [wl2_s]
        refine step_r hX (by omega) hG (fun K h1 h2 => hRL.2 K h1 (by rw [h2]; exact hRL.1)) (by omega) (fun _ _ N hN => ?_) (fun q => absurd q (by
          rintro (w | w)
          · exact h14 w
          · omega))
        -- down
        have hc := hmem i hi
        generalize hcc : (plL I n deal mood r).getD i 0 = c at hc
        obtain ⟨n1, n2, n3⟩ := hN
        obtain ⟨f1, f2, f3, ⟨f4, f5, f6⟩, f7, f8⟩ := hX
        have hpt := hG.pt h14 hc
        obtain ⟨g1, g2, g3, g4, g5, g6⟩ := hG.next h14 hc
        have hun2 := unp_next (I := I) (n := n) (deal := deal) (mood := mood) hG h14 hc
        unfold dnT
        rw [nn_ix (show d < 2147483648 by omega)]
        refine So_gd (inb_nn (by omega) (by decide)) (So_nm ?_)
        have t35 : TdE u M0 (sI N (u + 33) d (Int32.ofNat c)) := (f1.tr n1).tr (TdE_s (by decide))
        have r35 : mI (sI N (u + 33) d (Int32.ofNat c)) (u + 2) = r := by funext k; rw [mI_n1 (by omega), n2]
        refine So_bdM (playIt_r (m := ix (r 13)) (p := ix (r 14)) (hRL.2 _ t35 (by rw [r35]; exact hRL.1)) (by rw [r35]; exact hG.1) (by rw [r35]; exact hpt)) (fun gv M37 h37 => ?_)
        obtain ⟨w1, w2, w3⟩ := h37
        have w1 : RwE u (sI N (u + 33) d (Int32.ofNat c)) M37 := w1
        have w2 : gv = _ := w2
        have w3 : mI M37 (u + 2) = _ := w3
        rw [r35] at w2 w3
        have w2 : gv = (plN I n deal mood r c).1 := w2
        have w3 : mI M37 (u + 2) = (plN I n deal mood r c).2 := w3
        have t37 : TdE u (sI N (u + 33) d (Int32.ofNat c)) M37 := ⟨w1.1.up (fun q hq => by omega), w1.2.1, fun k hk => by rw [w3, r35]; exact g3 k (by omega)⟩
        have k37 : ∀ j, 32 ≤ j → j < 37 → mI M37 (u + j) = mI (sI N (u + 33) d (Int32.ofNat c)) (u + j) := fun j a b => (w1.1 (u + j) (by omega)).1
        have hgv : 0 ≤ gv.toInt ∧ gv.toInt ≤ 6000 := by rw [w2]; exact g2
        refine So_jn1R (fun v => v.toInt = if r 14 = 0 then gv.toInt else - gv.toInt) (fun v40 h40 => So_gd (inb_nn (by omega) (by decide)) (So_nm (So_nm ?_))) (fun j41 hj41 => ?_)
        rotate_left
        · refine So.ite (fun q => hj41 _ ?_) (fun q => hj41 _ ?_)
          · rw [if_neg q, i_neg (by omega)]
          · rw [if_pos (Classical.not_not.mp q)]
        rw [s1]
        refine So.bind (keepDeep_r (show d + 1 ≤ 9 by omega)) (fun M46 h46 => ?_)
        obtain ⟨e1, e2, e3, e4, e5, e6⟩ := h46
        have r43 : mI (sI M37 (u + 34) d v40) (u + 2) = (plN I n deal mood r c).2 := by funext k; rw [mI_n1 (by omega), w3]
        have t46 : TdE u M0 M46 := (((t35.tr t37).tr (TdE_s (j := 34) (by decide))).tr ⟨e1.up (fun q hq => by omega), fun k _ _ => by rw [(e1 u (by omega)).1], fun k _ => by rw [(e1 (u + 2) (by omega)).1]⟩)
        have r46 : mI M46 (u + 2) = (plN I n deal mood r c).2 := by rw [(e1 (u + 2) (by omega)).1, r43]
        -- what lies there
        have a33 : ∀ i', i' ≤ d → mI M46 (u + 33) i' = if i' = d then Int32.ofNat c else mI X (u + 33) i' := fun i' hi' => by
          rw [(e5 i' (by omega)).1, mI_n1 (by omega), k37 33 (by omega) (by omega)]
          by_cases z : i' = d
          · rw [if_pos z, z, mI_e]
          · rw [if_neg z, mI_n2 z, n3 33 (by omega) (by omega)]
        have a34 : ∀ i', i' ≤ d → mI M46 (u + 34) i' = if i' = d then v40 else mI X (u + 34) i' := fun i' hi' => by
          rw [e6]
          by_cases z : i' = d
          · rw [if_pos z, z, mI_e]
          · rw [if_neg z, mI_n2 z, k37 34 (by omega) (by omega), mI_n1 (by omega), n3 34 (by omega) (by omega)]
        have a35 : ∀ i', i' ≤ d → mI M46 (u + 35) i' = mI X (u + 35) i' := fun i' hi' => by
          rw [(e5 i' (by omega)).2.1, mI_n1 (by omega), k37 35 (by omega) (by omega), mI_n1 (by omega), n3 35 (by omega) (by omega)]
        have a36 : ∀ i', i' ≤ d → mI M46 (u + 36) i' = mI X (u + 36) i' := fun i' hi' => by
          rw [(e5 i' (by omega)).2.2, mI_n1 (by omega), k37 36 (by omega) (by omega), mI_n1 (by omega), n3 36 (by omega) (by omega)]
        have a32 : ∀ q, q < 122 * (d + 1) → mI M46 (u + 32) q = mI X (u + 32) q := fun q hq => by
          rw [e3 q hq, mI_n1 (by omega), k37 32 (by omega) (by omega), mI_n1 (by omega), n3 32 (by omega) (by omega)]
        have child : FrD u (d + 1) (plN I n deal mood r c).2 M46 M46 (-1) (-1) 0 := ⟨TdE.rf, fun j hj => by rw [e2 j hj, r43], fun k _ => by rw [r46], e4, fun _ _ => rfl, fun _ _ => ⟨rfl, rfl, rfl, rfl⟩⟩
        refine ih (d + 1) (plN I n deal mood r c).2 M46 (nn + 1 + j * (2 + cst k)) (by omega) g1 (by omega) (Or.inr g6) ⟨by rw [g3 8 (by omega)]; exact hRL.1, fun K hK h8 => hRL.2 K (t46.tr hK) h8⟩ child (fun Y m2 hm2 hY => ?_) m (by omega)
        -- up
        obtain ⟨m3, rfl⟩ : ∃ m', m2 = m' + 1 := ⟨m2 - 1, by omega⟩
        obtain ⟨i2, bc2, ba2, y1, y2, y3, y4, _⟩ := hY
        rw [wl2_s]
        refine step_r y3 (by omega) g1 (fun K h1 h2 => hRL.2 K (t46.tr h1) (by rw [h2, g3 8 (by omega)]; exact hRL.1)) y1 (fun q1 q2 => absurd y2 (by
          rintro (w | w)
          · exact q1 w
          · omega)) (fun _ N2 hN2 => ?_)
        obtain ⟨z1, z2, z3⟩ := hN2
        obtain ⟨o1, o2, o3, ⟨o4, o5, o6⟩, o7, o8⟩ := y3
        unfold upT
        rw [nn_ix (show d + 1 < 2147483648 by omega), m1 (by omega) (by omega), show d + 1 - 1 = d by omega, z3 35 (by omega) (by omega), o6]
        refine So_gd (inb_nn (by omega) (by decide)) (So_nm (So_nm ?_))
        rw [if_neg (show ¬ Int32.ofNat d < 0 from fun q => by have := (nn_lt (b := 0) (by omega) (by omega)).mp q; omega), nn_ix (show d < 2147483648 by omega)]
        refine So.bind (putDeep_r (by omega)) (fun M30 h30 => ?_)
        obtain ⟨q1, q2, q3⟩ := h30
        have kk : ∀ j, 32 ≤ j → j < 37 → mI M30 (u + j) = mI Y (u + j) := fun j a b => by rw [(q1 (u + j) (by omega)).1, z3 j a b]
        have tY : TdE u M0 M30 := ((t46.tr o1).tr z1).tr (put_td q1 q3)
        have r30 : mI M30 (u + 2) = r := by
          refine deep_row (X := N2) (d := d) (fun j hj => ?_) (fun k hk => ?_) q2 q3
          · rw [z3 32 (by omega) (by omega), o7 _ (by omega), a32 _ (by omega)]; exact f2 j hj
          · rw [z2]; exact g3 k (by omega)
        have v34 : mI M30 (u + 34) d = v40 := by rw [kk 34 (by omega) (by omega), (o8 d (by omega)).2.1, a34 d (by omega), if_pos rfl]
        have v33 : mI M30 (u + 33) d = Int32.ofNat c := by rw [kk 33 (by omega) (by omega), (o8 d (by omega)).1, a33 d (by omega), if_pos rfl]
        have v35 : mI M30 (u + 35) d = ba := by rw [kk 35 (by omega) (by omega), (o8 d (by omega)).2.2.1, a35 d (by omega), f6]
        have v36 : mI M30 (u + 36) d = bcE (bst (ah I n deal mood k r) ((plL I n deal mood r).take i)) := by rw [kk 36 (by omega) (by omega), (o8 d (by omega)).2.2.2, a36 d (by omega), f5]
        rw [v34]
        refine So_gd (inb_nn (by omega) (by decide)) (So.bind (takeBest_r (by omega)) (fun M33 h33 => ?_))
        rw [r30, v35, v36, v33] at h33
        -- the value
        have hbv := bv_rg (I := I) (n := n) (deal := deal) (mood := mood) k _ g1
        have hv : (v40 + ba2).toInt = if r 14 = 0 then ah I n deal mood k r c else - ah I n deal mood k r c := by
          have hx : v40.toInt + ba2.toInt = if r 14 = 0 then ah I n deal mood k r c else - ah I n deal mood k r c := by
            rw [h40, y4]
            unfold ah
            rw [← w2]
            obtain ⟨pp, pp1, pp2, pp3⟩ := hG.tn h14
            by_cases e0 : r 14 = 0
            · rw [if_pos e0, if_pos e0, e0]
            · rw [if_neg e0, if_neg e0]
              have e1 : r 14 = 1 := by
                rw [pp2]
                obtain rfl | rfl : pp = 0 ∨ pp = 1 := by omega
                · exact absurd pp2 e0
                · rfl
              rw [e1]
              rcases g1.1.2.2.2.2.2.2.1 with w | w | w
              · have b0 : bv I n deal mood k (plN I n deal mood r c).2 = 0 := by
                  cases k with
                  | zero => rfl
                  | succ k' => rw [bv_s, if_pos w]
                rw [w, b0, if_neg (by decide), if_neg (by decide)]; omega
              · rw [w, if_pos rfl, if_neg (by decide)]; omega
              · rw [w, if_neg (by decide), if_pos rfl]; omega
          have har := ah_rg (I := I) (n := n) (deal := deal) (mood := mood) (k := k) hG h14 hc
          rw [i_add] <;> rw [hx] <;> split <;> omega
        have bm := best_more (r := r) (f := ah I n deal mood k r) (o := bst (ah I n deal mood k r) ((plL I n deal mood r).take i)) (c := c) (bc := bcE (bst (ah I n deal mood k r) ((plL I n deal mood r).take i))) (ba := ba) (v := v40 + ba2) rfl hba (fun mx hmx => by
          have := ((bst_mem (f := ah I n deal mood k r) ((plL I n deal mood r).take i)).2 mx hmx).1
          exact (cs_mem.mp (List.mem_of_mem_take this)).1) hv
        have hb : bst (ah I n deal mood k r) ((plL I n deal mood r).take (i + 1)) = bstep (ah I n deal mood k r) (bst (ah I n deal mood k r) ((plL I n deal mood r).take i)) c := by
          rw [take_app hi, bst_app, hcc]
        have ca1 : caE (plL I n deal mood r) (i + 1) = Int32.ofNat c := by
          unfold caE
          rw [if_neg (by omega), show i + 1 - 1 = i by omega, hcc]
        have mk : ∀ bc' ba', M33 = sI (sI M30 (u + 36) d bc') (u + 35) d ba' → FrD u d r M0 M33 (Int32.ofNat c) bc' ba' := fun bc' ba' he => by
          subst he
          have x2 : ∀ j, j ≠ 35 → j ≠ 36 → ∀ k, mI (sI (sI M30 (u + 36) d bc') (u + 35) d ba') (u + j) k = mI M30 (u + j) k := fun j j1 j2 k => by rw [mI_n1 (by omega), mI_n1 (by omega)]
          refine ⟨(tY.tr (TdE_s (by decide))).tr (TdE_s (by decide)), fun j hj => ?_, fun k hk => ?_, ⟨?_, ?_, ?_⟩, fun q hq => ?_, fun i' hi' => ⟨?_, ?_, ?_, ?_⟩⟩
          · rw [x2 32 (by omega) (by omega), kk 32 (by omega) (by omega), o7 _ (by omega), a32 _ (by omega)]; exact f2 j hj
          · rw [x2 2 (by omega) (by omega), r30]
          · rw [x2 33 (by omega) (by omega)]; exact v33
          · rw [mI_n1 (by omega), mI_e]
          · rw [mI_e]
          · rw [x2 32 (by omega) (by omega), kk 32 (by omega) (by omega), o7 _ (by omega), a32 _ (by omega)]; exact f7 q hq
          · rw [x2 33 (by omega) (by omega), kk 33 (by omega) (by omega), (o8 i' (by omega)).1, a33 i' (by omega), if_neg (by omega)]; exact (f8 i' hi').1
          · rw [x2 34 (by omega) (by omega), kk 34 (by omega) (by omega), (o8 i' (by omega)).2.1, a34 i' (by omega), if_neg (by omega)]; exact (f8 i' hi').2.1
          · rw [mI_n2 (by omega), mI_n1 (by omega), kk 35 (by omega) (by omega), (o8 i' (by omega)).2.2.1, a35 i' (by omega)]; exact (f8 i' hi').2.2.1
          · rw [mI_n1 (by omega), mI_n2 (by omega), kk 36 (by omega) (by omega), (o8 i' (by omega)).2.2.2, a36 i' (by omega)]; exact (f8 i' hi').2.2.2
        rcases h33 with ⟨t1, t2⟩ | ⟨t1, t2⟩
        · have fr := mk _ _ t2
          obtain ⟨b1, b2⟩ := bm.1 t1
          refine ihj (i + 1) M33 (v40 + ba2) (by omega) (by rw [ca1, hb, b1]; exact fr) (by rw [hb]; exact b2) m3 (by omega)
        · have fr := mk _ _ t2
          obtain ⟨b1, b2⟩ := bm.2 t1
          refine ihj (i + 1) M33 ba (by omega) (by rw [ca1, hb, b1]; exact fr) (by rw [hb]; exact b2) m3 (by omega)
    refine go (plL I n deal mood r).length 0 M0 0 (by omega) hF rfl m ?_
    have : (plL I n deal mood r).length * (2 + cst k) ≤ 4 * (2 + cst k) := Nat.mul_le_mul_right _ hl4
    omega
