/-! ===== the reference's reader: what it holds ===== -/
def FrU (u : Nat) (F A : List Nat) (M N : Mem) : Prop := (∀ a, a ≠ u → (∀ o, o ∈ A → a ≠ u + o) → Ea M N a) ∧ (∀ k, k ∉ F → mI N u k = mI M u k) ∧ mJ N u = mJ M u ∧ mR N u = mR M u ∧ mN N u = mN M u
theorem FrU.rf {u : Nat} {F A : List Nat} {M : Mem} : FrU u F A M M := ⟨fun a _ _ => Ea.rf M a, fun _ _ => rfl, rfl, rfl, rfl⟩
theorem FrU.up {u : Nat} {F A F' A' : List Nat} {M N : Mem} (h : FrU u F A M N) (hF : ∀ k, k ∈ F → k ∈ F') (hA : ∀ k, k ∈ A → k ∈ A') : FrU u F' A' M N := ⟨fun a h1 h2 => h.1 a h1 (fun o ho => h2 o (hA o ho)), fun k hk => h.2.1 k (fun z => hk (hF k z)), h.2.2⟩
theorem FrU.tr {u : Nat} {F A : List Nat} {M N K : Mem} (h : FrU u F A M N) (h2 : FrU u F A N K) : FrU u F A M K := ⟨fun a x y => (h.1 a x y).tr (h2.1 a x y), fun k hk => (h2.2.1 k hk).trans (h.2.1 k hk), h2.2.2.1.trans h.2.2.1, h2.2.2.2.1.trans h.2.2.2.1, h2.2.2.2.2.trans h.2.2.2.2⟩
theorem FrU_f {u k : Nat} {F A : List Nat} {M : Mem} {v : Int32} (h : k ∈ F) : FrU u F A M (sI M u k v) := ⟨fun a x _ => Ea_sI x, fun j hj => by rw [mI_sI, if_neg (fun (z : u = u ∧ j = k) => hj (by rw [z.2]; exact h))], rfl, rfl, rfl⟩
theorem FrU_a {u o k : Nat} {F A : List Nat} {M : Mem} {v : Int32} (h : o ∈ A) (ho : o ≠ 0) : FrU u F A M (sI M (u + o) k v) := ⟨fun a _ y => Ea_sI (y o h), fun j _ => by rw [mI_sI, if_neg (by omega)], rfl, rfl, rfl⟩
def lsP (M : Mem) (a b : Nat) (X : List (Nat × Nat)) : Prop := ∀ i, i < X.length → mI M a i = Int32.ofNat (X.getD i (0, 0)).1 ∧ mI M b i = Int32.ofNat (X.getD i (0, 0)).2
theorem lsP.keep {M N : Mem} {a b : Nat} {X : List (Nat × Nat)} (h : lsP M a b X) (e1 : mI N a = mI M a) (e2 : mI N b = mI M b) : lsP N a b X := fun i hi => by rw [e1, e2]; exact h i hi
theorem gD_app_l {X Y : List (Nat × Nat)} {i : Nat} (h : i < X.length) : (X ++ Y).getD i (0, 0) = X.getD i (0, 0) := by
  rw [List.getD_eq_getElem?_getD, List.getElem?_append_left h, List.getD_eq_getElem?_getD]
theorem gD_app_r {X Y : List (Nat × Nat)} {i : Nat} : (X ++ Y).getD (X.length + i) (0, 0) = Y.getD i (0, 0) := by
  rw [List.getD_eq_getElem?_getD, List.getElem?_append_right (by omega), Nat.add_sub_cancel_left, List.getD_eq_getElem?_getD]
theorem lsP.app {M : Mem} {a b op x : Nat} {X : List (Nat × Nat)} (hab : a ≠ b) (h : lsP M a b X) : lsP (sI (sI M a X.length (Int32.ofNat op)) b X.length (Int32.ofNat x)) a b (X ++ [(op, x)]) := by
  intro i hi
  simp only [List.length_append, List.length_cons, List.length_nil] at hi
  rw [mI_sI, if_neg (fun z => hab z.1), mI_sI, mI_sI, mI_sI]
  by_cases c : i = X.length
  · subst c
    rw [if_pos ⟨rfl, rfl⟩, if_pos ⟨rfl, rfl⟩]
    have := gD_app_r (X := X) (Y := [(op, x)]) (i := 0)
    rw [Nat.add_zero] at this
    rw [this]; exact ⟨rfl, rfl⟩
  · have := h i (by omega)
    rw [if_neg (fun z => c z.2), if_neg (fun z => c z.2), if_neg (fun z => c z.2), gD_app_l (by omega)]
    exact this
theorem lsP.pre {M : Mem} {a b : Nat} {X Y : List (Nat × Nat)} (h : lsP M a b (X ++ Y)) : lsP M a b X := fun i hi => by
  have := h i (by rw [List.length_append]; omega)
  rw [gD_app_l hi] at this; exact this
theorem lsP.set {M : Mem} {a b k : Nat} {x : Nat} {X : List (Nat × Nat)} (hab : a ≠ b) (h : lsP M a b X) : lsP (sI M b k (Int32.ofNat x)) a b (X.set k ((X.getD k (0, 0)).1, x)) := by
  intro i hi
  rw [List.length_set] at hi
  have := h i hi
  rw [mI_sI, if_neg (fun z => hab z.1), mI_sI, List.getD_eq_getElem?_getD, List.getElem?_set]
  by_cases c : k = i
  · subst c
    rw [if_pos rfl, if_pos hi, if_pos ⟨rfl, rfl⟩]
    exact ⟨this.1, rfl⟩
  · rw [if_neg c, if_neg (fun z => c z.2.symm), ← List.getD_eq_getElem?_getD]
    exact this
/-- code and pile -/
def CP (u : Nat) (N : Mem) (C P : List (Nat × Nat)) : Prop := mI N u 23 = Int32.ofNat C.length ∧ lsP N (u + 11) (u + 12) C ∧ mI N u 29 = Int32.ofNat P.length ∧ lsP N (u + 13) (u + 14) P ∧ ∀ q, q ∈ P → 20 ≤ q.1 ∧ q.1 ≤ 32 ∧ ((q.1 = 29 ∨ q.1 = 30) → q.2 < C.length)
theorem CP.keep {u : Nat} {F A : List Nat} {M N : Mem} {C P : List (Nat × Nat)} (h : CP u M C P) (e : FrU u F A M N) (h1 : 23 ∉ F) (h2 : 29 ∉ F) (h3 : 11 ∉ A ∧ 12 ∉ A ∧ 13 ∉ A ∧ 14 ∉ A) : CP u N C P := by
  have ea : ∀ k, k ≠ 0 → k ∉ A → mI N (u + k) = mI M (u + k) := fun k hk hA => by
    refine (e.1 (u + k) (by omega) (fun o ho z => hA ?_)).1
    have : k = o := by omega
    rw [this]; exact ho
  exact ⟨by rw [e.2.1 23 h1]; exact h.1, h.2.1.keep (ea 11 (by decide) h3.1) (ea 12 (by decide) h3.2.1), by rw [e.2.1 29 h2]; exact h.2.2.1, h.2.2.2.1.keep (ea 13 (by decide) h3.2.2.1) (ea 14 (by decide) h3.2.2.2), h.2.2.2.2⟩
theorem emit_so {u op x : Nat} {N : Mem} {C P : List (Nat × Nat)} (h : CP u N C P) (hl : C.length < 400) : So (FX12_emit u (Int32.ofNat op) (Int32.ofNat x) N) (fun N' => FrU u [23] [11, 12] N N' ∧ CP u N' (C ++ [(op, x)]) P) := by
  obtain ⟨h1, h2, h3, h4, h5⟩ := h
  unfold FX12_emit
  rw [h1, nn_ix (by omega)]
  refine So_gd (inb_nn hl (by decide)) (So_nm ?_)
  have e2 : mI (sI N (u + 11) C.length (Int32.ofNat op)) u 23 = Int32.ofNat C.length := by rw [mI_sI, if_neg (by omega), h1]
  rw [e2, nn_ix (by omega)]
  refine So_gd (inb_nn hl (by decide)) (So_nm (So_nm (So.ok ?_)))
  have e3 : mI (sI (sI N (u + 11) C.length (Int32.ofNat op)) (u + 12) C.length (Int32.ofNat x)) u 23 = Int32.ofNat C.length := by rw [mI_sI, if_neg (by omega), e2]
  rw [e3, s1]
  refine ⟨((FrU_a (by decide) (by decide)).tr (FrU_a (by decide) (by decide))).tr (FrU_f (by decide)), ?_, ?_, ?_, ?_, ?_⟩
  · rw [mI_sI, if_pos ⟨rfl, rfl⟩]; simp
  · refine (h2.app (op := op) (x := x) (by omega)).keep (funext fun k => ?_) (funext fun k => ?_)
    · rw [mI_sI, if_neg (by omega)]
    · rw [mI_sI, if_neg (by omega)]
  · rw [mI_sI, if_neg (by simp), mI_sI, if_neg (by omega), mI_sI, if_neg (by omega)]; exact h3
  · refine h4.keep (funext fun k => ?_) (funext fun k => ?_)
    · rw [mI_sI, if_neg (by omega), mI_sI, if_neg (by omega), mI_sI, if_neg (by omega)]
    · rw [mI_sI, if_neg (by omega), mI_sI, if_neg (by omega), mI_sI, if_neg (by omega)]
  · intro q hq
    obtain ⟨a, b, c⟩ := h5 q hq
    exact ⟨a, b, fun z => by rw [List.length_append]; have := c z; omega⟩
theorem pushR_so {u op x : Nat} {N : Mem} {C P : List (Nat × Nat)} (h : CP u N C P) (hl : P.length < 400) (ho : 20 ≤ op ∧ op ≤ 32 ∧ ((op = 29 ∨ op = 30) → x < C.length + 1)) : So (FX12_push u (Int32.ofNat op) (Int32.ofNat x) N) (fun N' => FrU u [29] [13, 14] N N' ∧ (mI N' u 29 = Int32.ofNat (P ++ [(op, x)]).length ∧ lsP N' (u + 13) (u + 14) (P ++ [(op, x)])) ∧ ∀ D, C.length < D.length ∨ (op ≠ 29 ∧ op ≠ 30 ∧ C.length ≤ D.length) → mI N' u 23 = Int32.ofNat D.length → lsP N' (u + 11) (u + 12) D → CP u N' D (P ++ [(op, x)])) := by
  obtain ⟨h1, h2, h3, h4, h5⟩ := h
  unfold FX12_push
  rw [h3, nn_ix (by omega)]
  refine So_gd (inb_nn hl (by decide)) (So_nm ?_)
  have e2 : mI (sI N (u + 13) P.length (Int32.ofNat op)) u 29 = Int32.ofNat P.length := by rw [mI_sI, if_neg (by omega), h3]
  rw [e2, nn_ix (by omega)]
  refine So_gd (inb_nn hl (by decide)) (So_nm (So_nm (So.ok ?_)))
  have e3 : mI (sI (sI N (u + 13) P.length (Int32.ofNat op)) (u + 14) P.length (Int32.ofNat x)) u 29 = Int32.ofNat P.length := by rw [mI_sI, if_neg (by omega), e2]
  rw [e3, s1]
  have g1 : mI (sI (sI (sI N (u + 13) P.length (Int32.ofNat op)) (u + 14) P.length (Int32.ofNat x)) u 29 (Int32.ofNat (P.length + 1))) u 29 = Int32.ofNat (P ++ [(op, x)]).length := by
    rw [mI_sI, if_pos ⟨rfl, rfl⟩]; simp
  have g2 : lsP (sI (sI (sI N (u + 13) P.length (Int32.ofNat op)) (u + 14) P.length (Int32.ofNat x)) u 29 (Int32.ofNat (P.length + 1))) (u + 13) (u + 14) (P ++ [(op, x)]) := by
    refine (h4.app (op := op) (x := x) (by omega)).keep (funext fun k => ?_) (funext fun k => ?_)
    · rw [mI_sI, if_neg (by omega)]
    · rw [mI_sI, if_neg (by omega)]
  refine ⟨((FrU_a (by decide) (by decide)).tr (FrU_a (by decide) (by decide))).tr (FrU_f (by decide)), ⟨g1, g2⟩, fun D hD d1 d2 => ⟨d1, d2, g1, g2, ?_⟩⟩
  · intro q hq
    rcases List.mem_append.mp hq with hq | hq
    · obtain ⟨a, b, c⟩ := h5 q hq
      exact ⟨a, b, fun z => by have := c z; omega⟩
    · obtain rfl := List.mem_singleton.mp hq
      exact ⟨ho.1, ho.2.1, fun z => by
        have := ho.2.2 z
        simp only [] at this z ⊢
        omega⟩
def bindP (op : Nat) : Nat := if 31 ≤ op then 0 else if op = 30 then 1 else if op = 29 then 2 else if op = 28 then 3 else if 25 ≤ op then 4 else if 22 ≤ op then 6 else 5
theorem binds_eq : ∀ op, op < 33 → FX12_binds (Int32.ofNat op) = some (Int32.ofNat (bindP op)) := by decide
theorem bindP_lt (op : Nat) : bindP op < 7 := by unfold bindP; (repeat' split) <;> omega
def flushP : List (Nat × Nat) → List (Nat × Nat) → List (Nat × Nat)
  | C, [] => C
  | C, q :: Q => if q.1 = 29 ∨ q.1 = 30 then flushP (C.set q.2 ((C.getD q.2 (0, 0)).1, C.length)) Q else flushP (C ++ [(q.1, 0)]) Q
theorem flushP_app : ∀ (Q R C : List (Nat × Nat)), flushP C (Q ++ R) = flushP (flushP C Q) R
  | [], _, _ => rfl
  | q :: Q, R, C => by
    show (if q.1 = 29 ∨ q.1 = 30 then flushP _ (Q ++ R) else flushP _ (Q ++ R)) = flushP (if q.1 = 29 ∨ q.1 = 30 then flushP _ Q else flushP _ Q) R
    by_cases c : q.1 = 29 ∨ q.1 = 30
    · rw [if_pos c, if_pos c]; exact flushP_app Q R _
    · rw [if_neg c, if_neg c]; exact flushP_app Q R _
theorem flushP_len : ∀ (Q C : List (Nat × Nat)), C.length ≤ (flushP C Q).length ∧ (flushP C Q).length ≤ C.length + Q.length
  | [], C => ⟨Nat.le_refl _, Nat.le_refl _⟩
  | q :: Q, C => by
    unfold flushP
    by_cases c : q.1 = 29 ∨ q.1 = 30
    · rw [if_pos c]
      have := flushP_len Q (C.set q.2 ((C.getD q.2 (0, 0)).1, C.length))
      rw [List.length_set] at this
      simp only [List.length_cons]; omega
    · rw [if_neg c]
      have := flushP_len Q (C ++ [(q.1, 0)])
      simp only [List.length_append, List.length_cons, List.length_nil] at this ⊢; omega
theorem settle_so {u least : Nat} {N : Mem} {C P Q : List (Nat × Nat)} (h : CP u N C (P ++ Q.reverse)) (hl : C.length + (P.length + Q.length) ≤ 400) (hQ : ∀ q, q ∈ Q → least ≤ bindP q.1) (hP : P = [] ∨ bindP (P.getD (P.length - 1) (0, 0)).1 < least) (hle : least < 8) : So (FX12_settle u (Int32.ofNat least) N) (fun N' => FrU u [23, 29] [11, 12] N N' ∧ CP u N' (flushP C Q) P) := by
  unfold FX12_settle
  refine So_wl1 (fun K => ∃ D R, FrU u [23, 29] [11, 12] N K ∧ CP u K D (P ++ R.reverse) ∧ flushP D R = flushP C Q ∧ D.length + (P.length + R.length) ≤ 400 ∧ ∀ q, q ∈ R → least ≤ bindP q.1) (fun K => ix (mI K u 29)) ?_ fuel N ⟨C, Q, FrU.rf, h, rfl, hl, hQ⟩ (by rw [h.2.2.1, nn_ix (by simp; omega)]; simp only [List.length_append, List.length_reverse]; unfold fuel; omega)
  rintro K rec ⟨D, R, hF, hC, hfl, hb, hR⟩ hr
  have hpl := hC.2.2.1
  simp only [List.length_append, List.length_reverse] at hpl
  refine So_jn0C (R = []) (fun hn => ?_) (fun j4 hj4 => ?_)
  · subst hn
    refine So.ok ⟨hF, ?_⟩
    rw [← hfl]
    simpa [flushP] using hC
  · rw [hpl]
    by_cases c0 : P.length + R.length = 0
    · rw [c0, if_pos (by decide)]
      exact hj4 (List.length_eq_zero_iff.mp (by omega))
    · rw [if_neg (show ¬ Int32.ofNat (P.length + R.length) ≤ 0 from nle (i := 0) (by omega) (by omega)), show Int32.ofNat (P.length + R.length) - 1 = Int32.ofNat (P.length + R.length - 1) from nn_sub (b := 1) (by omega) (by omega), nn_ix (by omega)]
      refine So_gd (inb_nn (by omega) (by decide)) ?_
      have hcell := hC.2.2.2.1 (P.length + R.length - 1) (by simp only [List.length_append, List.length_reverse]; omega)
      cases R with
      | nil =>
        simp only [List.reverse_nil, List.append_nil, List.length_nil, Nat.add_zero] at hcell hC c0 ⊢
        have hm := hC.2.2.2.2 (P.getD (P.length - 1) (0, 0)) (by
          rw [List.getD_eq_getElem?_getD, List.getElem?_eq_getElem (by omega)]
          exact List.getElem_mem _)
        rw [hcell.1, binds_eq _ (by omega)]
        refine So.bindE rfl ?_
        have hb2 := bindP_lt (P.getD (P.length - 1) (0, 0)).1
        rw [if_pos ((nn_lt (by omega) (by omega)).mpr (hP.resolve_left (fun z => by rw [z] at c0; exact c0 rfl)))]
        exact hj4 rfl
      | cons q R =>
        simp only [List.reverse_cons, List.length_cons] at hcell hC hb hpl ⊢
        have hq : ((P ++ (R.reverse ++ [q])).getD (P.length + (R.length + 1) - 1) (0, 0)) = q := by
          rw [← List.append_assoc]
          have := gD_app_r (X := P ++ R.reverse) (Y := [q]) (i := 0)
          simp only [List.length_append, List.length_reverse, Nat.add_zero] at this
          rw [show P.length + (R.length + 1) - 1 = P.length + R.length by omega, this]; rfl
        rw [hq] at hcell
        have hm := hC.2.2.2.2 q (by simp)
        rw [hcell.1, binds_eq _ (by omega)]
        refine So.bindE rfl ?_
        have hb2 := bindP_lt q.1
        have hlq := hR q List.mem_cons_self
        rw [if_neg (fun z => by have := (nn_lt (by omega) (by omega)).mp z; omega)]
        refine So_nm ?_
        have m29 : mI (sI K u 29 (Int32.ofNat (P.length + (R.length + 1) - 1))) u 29 = Int32.ofNat (P.length + R.length) := by
          rw [mI_sI, if_pos ⟨rfl, rfl⟩]; congr 1
        generalize hK1 : sI K u 29 (Int32.ofNat (P.length + (R.length + 1) - 1)) = K1 at m29
        have F1 : FrU u [23, 29] [11, 12] K K1 := by rw [← hK1]; exact FrU_f (by decide)
        have c13 : mI K1 (u + 13) = mI K (u + 13) := by rw [← hK1]; funext k; rw [mI_sI, if_neg (by omega)]
        have c14 : mI K1 (u + 14) = mI K (u + 14) := by rw [← hK1]; funext k; rw [mI_sI, if_neg (by omega)]
        have c23 : mI K1 u 23 = Int32.ofNat D.length := by rw [← hK1, mI_sI, if_neg (by simp)]; exact hC.1
        have hC1 : CP u K1 D (P ++ R.reverse) := by
          refine ⟨c23, hC.2.1.keep (by rw [← hK1]; funext k; rw [mI_sI, if_neg (by omega)]) (by rw [← hK1]; funext k; rw [mI_sI, if_neg (by omega)]), by rw [m29]; simp, ?_, fun x hx => hC.2.2.2.2 x (by
            rcases List.mem_append.mp hx with z | z
            · simp [z]
            · simp at z; simp [z])⟩
          have h4 := hC.2.2.2.1
          rw [← List.append_assoc] at h4
          exact h4.pre.keep c13 c14
        rw [m29, nn_ix (by omega), c13, c14]
        rw [show P.length + (R.length + 1) - 1 = P.length + R.length by omega] at hcell
        have i1 : inb (Int32.ofNat (P.length + R.length)) 400 = true := inb_nn (by omega) (by decide)
        refine So_gd i1 ?_
        rw [hcell.1, hcell.2]
        have hmeas : ∀ K', mI K' u 29 = Int32.ofNat (P.length + R.length) → ix (mI K' u 29) < ix (mI K u 29) := fun K' z => by
          rw [z, hpl, nn_ix (by omega), nn_ix (by omega)]; omega
        refine So_jn0C (q.1 = 29 ∨ q.1 = 30) (fun hand => ?_) (fun j12 hj12 => ?_)
        · have hq2 := hm.2.2 hand
          refine So_gd i1 (So_gd (inb_nn (by omega) (by decide)) (So_nm ?_))
          rw [nn_ix (by omega), c23]
          refine hr _ ⟨D.set q.2 ((D.getD q.2 (0, 0)).1, D.length), R, (hF.tr F1).tr (FrU_a (by decide) (by decide)), ?_, ?_, by rw [List.length_set]; omega, fun x hx => hR x (List.mem_cons_of_mem _ hx)⟩ ?_
          · refine ⟨?_, hC1.2.1.set (by omega), ?_, ?_, ?_⟩
            · rw [mI_sI, if_neg (by omega), List.length_set]; exact c23
            · rw [mI_sI, if_neg (by omega)]; exact hC1.2.2.1
            · exact hC1.2.2.2.1.keep (funext fun k => by rw [mI_sI, if_neg (by omega)]) (funext fun k => by rw [mI_sI, if_neg (by omega)])
            · rw [List.length_set]; exact hC1.2.2.2.2
          · rw [← hfl]; show _ = flushP D (q :: R); unfold flushP; rw [if_pos hand]
            cases R <;> rfl
          · refine hmeas _ ?_; rw [mI_sI, if_neg (by omega)]; exact m29
        · by_cases z29 : q.1 = 29
          · rw [if_pos (by rw [z29]; rfl)]; exact hj12 (Or.inl z29)
          rw [if_neg (show ¬ Int32.ofNat q.1 = 29 from fun z => z29 ((nn_eq (b := 29) (by omega) (by omega)).mp z))]
          refine So_gd i1 ?_
          by_cases z30 : q.1 = 30
          · rw [if_neg (fun z => z (by rw [z30]; rfl))]; exact hj12 (Or.inr z30)
          rw [if_pos (show ¬ Int32.ofNat q.1 = 30 from fun z => z30 ((nn_eq (b := 30) (by omega) (by omega)).mp z))]
          refine So_gd i1 (So.bind (emit_so (op := q.1) (x := 0) hC1 (by omega)) (fun K2 hK2 => ?_))
          obtain ⟨e1, e2⟩ := hK2
          refine hr _ ⟨D ++ [(q.1, 0)], R, (hF.tr F1).tr (e1.up (by decide) (by decide)), e2, ?_, by simp only [List.length_append, List.length_cons, List.length_nil]; omega, fun x hx => hR x (List.mem_cons_of_mem _ hx)⟩ ?_
          · rw [← hfl]; show _ = flushP D (q :: R); unfold flushP; rw [if_neg (fun z => z.elim z29 z30)]
            cases R <;> rfl
          · refine hmeas _ ?_; rw [e1.2.1 29 (by decide)]; exact m29
