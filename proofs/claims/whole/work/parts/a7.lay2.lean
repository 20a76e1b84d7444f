/-! ===== to lay: what the row may be ===== -/
theorem cs18 {r r' : Nat → Int32} (e : ∀ k, 18 ≤ k → k < 70 → r' k = r k) (p : Int32) : cs (fun c => decide (r' (18 + c) = p)) = cs (fun c => decide (r (18 + c) = p)) := cs_cg (fun c hc => by rw [e (18 + c) (by omega) (by omega)])
theorem cs70 {r r' : Nat → Int32} (e : ∀ k, 70 ≤ k → k < 122 → r' k = r k) (p : Int32) : cs (fun c => decide (r' (70 + c) = p)) = cs (fun c => decide (r (70 + c) = p)) := cs_cg (fun c hc => by rw [e (70 + c) (by omega) (by omega)])
theorem TV.row1 {r r' : Nat → Int32} (h : TV r) (e : ∀ k, 8 ≤ k → k < 130 → k ≠ 14 → k ≠ 16 → k ≠ 17 → r' k = r k) (h14 : (r' 14 = r 14) ∨ (r 9 = 2 ∧ (r' 14 = -1 ∨ r' 14 = 0 ∨ r' 14 = 1))) (hp0 : 0 ≤ (r' 16).toInt ∧ (r' 16).toInt ≤ 9999) (hp1 : 0 ≤ (r' 17).toInt ∧ (r' 17).toInt ≤ 9999) : TV r' := by
  have c18 : ∀ p : Int32, cs (fun c => decide (r' (18 + c) = p)) = cs (fun c => decide (r (18 + c) = p)) := cs18 (fun k a b => e k (by omega) (by omega) (by omega) (by omega) (by omega))
  have c70 := cs70 (r := r) (r' := r') (fun k a b => e k (by omega) (by omega) (by omega) (by omega) (by omega)) 1
  obtain ⟨h1, h2, h3, h4, h5, h6, h7, h8, h9, h10, h11, h12, h13, h14', h15, h16, h17, h18, h19⟩ := h
  unfold TV
  rw [c18, c18, c18, c70, e 8 (by omega) (by omega) (by omega) (by omega) (by omega), e 9 (by omega) (by omega) (by omega) (by omega) (by omega), e 10 (by omega) (by omega) (by omega) (by omega) (by omega), e 11 (by omega) (by omega) (by omega) (by omega) (by omega), e 12 (by omega) (by omega) (by omega) (by omega) (by omega), e 13 (by omega) (by omega) (by omega) (by omega) (by omega), e 15 (by omega) (by omega) (by omega) (by omega) (by omega)]
  refine ⟨h1, h2, h3, h4, h5, ?_, ?_, h8, hp0, hp1, fun c hc => ?_, fun c hc => ?_, fun c hc => ?_, fun c hc => ?_, fun z => ⟨fun c hc => ?_, (h15 z).2⟩, h16, fun z => ?_, h18, h19⟩
  · obtain ⟨n, n1, n2, n3, n4⟩ := h6
    exact ⟨n, n1, n2, n3, fun k hk => by rw [e (122 + k) (by omega) (by omega) (by omega) (by omega) (by omega)]; exact n4 k hk⟩
  · rcases h14 with z | z
    · rw [z]; exact h7
    · exact z.2
  · rw [e (18 + c) (by omega) (by omega) (by omega) (by omega) (by omega)]; exact h11 c hc
  · rw [e (18 + c) (by omega) (by omega) (by omega) (by omega) (by omega)]; exact h12 c hc
  · rw [e (70 + c) (by omega) (by omega) (by omega) (by omega) (by omega)]; exact h13 c hc
  · rw [e (70 + c) (by omega) (by omega) (by omega) (by omega) (by omega), e (18 + c) (by omega) (by omega) (by omega) (by omega) (by omega)]; exact h14' c hc
  · rw [e (18 + c) (by omega) (by omega) (by omega) (by omega) (by omega)]; exact (h15 z).1 c hc
  · rcases h14 with y | y
    · rw [y]; exact h17 z
    · exact absurd y.1 z
theorem nAt_same {r : Nat → Int32} {c q p : Nat} (hq : q < 2) (hp : p < 2) (hw : r (18 + c) = Int32.ofNat p) (z : q ≠ p) : nAt (ru r (18 + c) 2) (Int32.ofNat q) = nAt r (Int32.ofNat q) := by
  unfold nAt
  congr 1
  refine cs_cg (fun d hd => ?_)
  by_cases y : d = c
  · rw [y, ru_e, hw, decide_eq_false, decide_eq_false]
    · rw [nn_eq (by omega) (by omega)]; omega
    · rw [show (2 : Int32) = Int32.ofNat 2 from rfl, nn_eq (by omega) (by omega)]; omega
  · rw [ru_n (by omega)]
theorem nAt_less {r : Nat → Int32} {c p : Nat} (hc : c < 52) (hp : p < 2) (hw : r (18 + c) = Int32.ofNat p) : nAt (ru r (18 + c) 2) (Int32.ofNat p) + 1 = nAt r (Int32.ofNat p) := by
  unfold nAt
  rw [← cs_del (P := fun c => decide (r (18 + c) = Int32.ofNat p)) (x := c) (decide_eq_true hw) hc]
  congr 2
  refine cs_cg (fun d hd => ?_)
  by_cases y : d = c
  · rw [y, ru_e, decide_eq_false]
    · simp
    · rw [show (2 : Int32) = Int32.ofNat 2 from rfl, nn_eq (by omega) (by omega)]; omega
  · rw [ru_n (by omega)]; simp [y]
theorem nAt_more {r : Nat → Int32} {c p : Nat} (hc : c < 52) (hp : p < 2) (hw : r (18 + c) = Int32.ofNat p) : nAt (ru r (18 + c) 2) 2 = nAt r 2 + 1 := by
  unfold nAt
  rw [← cs_ins (fun c => decide (r (18 + c) = 2)) c (decide_eq_false (by rw [hw, show (2 : Int32) = Int32.ofNat 2 from rfl, nn_eq (by omega) (by omega)]; omega)) hc]
  congr 1
  refine cs_cg (fun d hd => ?_)
  by_cases y : d = c
  · rw [y, ru_e]; simp
  · rw [ru_n (by omega)]; simp [y]
/-- a card goes to the crib, and more are to go -/
theorem TV.lay1 {r : Nat → Int32} {c p : Nat} (h : TV r) (h9 : r 9 = 1) (hc : c < 52) (hp : p < 2) (hw : r (18 + c) = Int32.ofNat p) (h5 : 5 ≤ nAt r (Int32.ofNat p)) (hn : ¬ (nAt (ru r (18 + c) 2) 0 = 4 ∧ nAt (ru r (18 + c) 2) 1 = 4)) : TV (ru r (18 + c) 2) := by
  have e : ∀ k, k ≠ 18 + c → ru r (18 + c) 2 k = r k := fun k hk => ru_n hk
  have c70 := cs70 (r := r) (r' := ru r (18 + c) 2) (fun k a b => e k (by omega)) 1
  have m2 := nAt_more hc hp hw
  have ml := nAt_less hc hp hw
  have ms : ∀ q, q < 2 → q ≠ p → nAt (ru r (18 + c) 2) (Int32.ofNat q) = nAt r (Int32.ofNat q) := fun q a b => nAt_same a hp hw b
  obtain ⟨h1, h2, h3, h4, h5', h6, h7, h8, h9', h10, h11, h12, h13, h14, h15, h16, h17, h18, h19⟩ := h
  obtain ⟨a1, a2, a3, a4, a5, a6⟩ := h18 h9
  have a1 : 4 ≤ nAt r 0 := a1
  have a2 : nAt r 0 ≤ 6 := a2
  have a3 : 4 ≤ nAt r 1 := a3
  have a4 : nAt r 1 ≤ 6 := a4
  have a5 : nAt r 0 + nAt r 1 + nAt r 2 = 12 := a5
  have cnt : 4 ≤ nAt (ru r (18 + c) 2) 0 ∧ nAt (ru r (18 + c) 2) 0 ≤ 6 ∧ 4 ≤ nAt (ru r (18 + c) 2) 1 ∧ nAt (ru r (18 + c) 2) 1 ≤ 6 ∧ nAt (ru r (18 + c) 2) 0 + nAt (ru r (18 + c) 2) 1 + nAt (ru r (18 + c) 2) 2 = 12 ∧ 8 < nAt (ru r (18 + c) 2) 0 + nAt (ru r (18 + c) 2) 1 := by
    obtain rfl | rfl : p = 0 ∨ p = 1 := by omega
    · have k1 : nAt (ru r (18 + c) 2) 1 = nAt r 1 := ms 1 (by decide) (by decide)
      have k0 : nAt (ru r (18 + c) 2) 0 + 1 = nAt r 0 := ml
      have h5 : 5 ≤ nAt r 0 := h5
      omega
    · have k1 : nAt (ru r (18 + c) 2) 0 = nAt r 0 := ms 0 (by decide) (by decide)
      have k0 : nAt (ru r (18 + c) 2) 1 + 1 = nAt r 1 := ml
      have h5 : 5 ≤ nAt r 1 := h5
      omega
  unfold TV
  rw [c70, e 8 (by omega), e 9 (by omega), e 10 (by omega), e 11 (by omega), e 12 (by omega), e 13 (by omega), e 14 (by omega), e 15 (by omega), e 16 (by omega), e 17 (by omega)]
  refine ⟨h1, h2, h3, h4, h5', ?_, h7, h8, h9', h10, fun d hd => ?_, fun d hd => ?_, fun d hd => ?_, fun d hd z => ?_, fun z => ?_, h16, h17, fun _ => cnt, fun z => ?_⟩
  · obtain ⟨n, n1, n2, n3, n4⟩ := h6
    exact ⟨n, n1, n2, n3, fun k hk => by rw [e (122 + k) (by omega)]; exact n4 k hk⟩
  · by_cases y : d = c
    · rw [y, ru_e]; simp
    · rw [e _ (by omega)]; exact h11 d hd
  · by_cases y : d = c
    · rw [y, ru_e]
      refine ⟨fun z => absurd z (by decide), fun z => ?_⟩
      have := (h12 c hc).mpr z
      rw [hw, show (3 : Int32) = Int32.ofNat 3 from rfl, nn_eq (by omega) (by omega)] at this
      omega
    · rw [e _ (by omega)]; exact h12 d hd
  · rw [e _ (by omega)]; exact h13 d hd
  · rw [h9] at z; exact absurd z (by decide)
  · rw [h9] at z; exact absurd z (by decide)
  · rw [h9] at z; exact absurd z (by decide)
/-- the last card goes to the crib -/
theorem TV.lay2 {r : Nat → Int32} {c p : Nat} (h : TV r) (h9 : r 9 = 1) (hc : c < 52) (hp : p < 2) (hw : r (18 + c) = Int32.ofNat p) (hn : nAt (ru r (18 + c) 2) 0 = 4 ∧ nAt (ru r (18 + c) 2) 1 = 4) : TV (lyB (ru r (18 + c) 2)) := by
  have m2 := nAt_more hc hp hw
  have ml := nAt_less hc hp hw
  have ms : ∀ q, q < 2 → q ≠ p → nAt (ru r (18 + c) 2) (Int32.ofNat q) = nAt r (Int32.ofNat q) := fun q a b => nAt_same a hp hw b
  obtain ⟨h1, h2, h3, h4, h5', h6, h7, h8, h9', h10, h11, h12, h13, h14, h15, h16, h17, h18, h19⟩ := h
  obtain ⟨a1, a2, a3, a4, a5, a6⟩ := h18 h9
  have a5 : nAt r 0 + nAt r 1 + nAt r 2 = 12 := a5
  have n2 : nAt (ru r (18 + c) 2) 2 = 4 := by
    obtain rfl | rfl : p = 0 ∨ p = 1 := by omega
    · have k1 : nAt (ru r (18 + c) 2) 1 = nAt r 1 := ms 1 (by decide) (by decide)
      have k0 : nAt (ru r (18 + c) 2) 0 + 1 = nAt r 0 := ml
      omega
    · have k1 : nAt (ru r (18 + c) 2) 0 = nAt r 0 := ms 0 (by decide) (by decide)
      have k0 : nAt (ru r (18 + c) 2) 1 + 1 = nAt r 1 := ml
      omega
  generalize hR : lyB (ru r (18 + c) 2) = R
  have eR : ∀ k, k ≠ 9 → k ≠ 12 → k ≠ 13 → k ≠ 15 → ¬ (70 ≤ k ∧ k < 122) → R k = ru r (18 + c) 2 k := fun k a b c d e => by
    rw [← hR]; unfold lyB; rw [zr_n e, ru_n d, ru_n c, ru_n b, ru_n a]
  have e : ∀ k, k ≠ 9 → k ≠ 12 → k ≠ 13 → k ≠ 15 → ¬ (70 ≤ k ∧ k < 122) → k ≠ 18 + c → R k = r k := fun k a b c d e f => by rw [eR k a b c d e, ru_n f]
  have R9 : R 9 = 2 := by rw [← hR]; rfl
  have R12 : R 12 = 0 := by rw [← hR]; rfl
  have R13 : R 13 = 0 := by rw [← hR]; rfl
  have R15 : R 15 = -1 := by rw [← hR]; rfl
  have R70 : ∀ d, d < 52 → R (70 + d) = 0 := fun d hd => by rw [← hR]; exact zr_y hd
  have cR : ∀ q, cs (fun c => decide (R (18 + c) = q)) = cs (fun d => decide (ru r (18 + c) 2 (18 + d) = q)) := fun q => cs18 (fun k a b => eR k (by omega) (by omega) (by omega) (by omega) (by omega)) q
  have r14 : r 14 = -1 := h17 (by rw [h9]; decide)
  unfold TV
  rw [cR, cR, cR, R9, R12, R13, R15, e 8 (by omega) (by omega) (by omega) (by omega) (by omega) (by omega), e 10 (by omega) (by omega) (by omega) (by omega) (by omega) (by omega), e 11 (by omega) (by omega) (by omega) (by omega) (by omega) (by omega), e 14 (by omega) (by omega) (by omega) (by omega) (by omega) (by omega), e 16 (by omega) (by omega) (by omega) (by omega) (by omega) (by omega), e 17 (by omega) (by omega) (by omega) (by omega) (by omega) (by omega)]
  refine ⟨h1, Or.inr (Or.inr (Or.inl rfl)), h3, h4, by decide, ⟨0, by omega, rfl, Nat.zero_le _, fun k hk => absurd hk (by omega)⟩, h7, Or.inl rfl, h9', h10, fun d hd => ?_, fun d hd => ?_, fun d hd => Or.inl (R70 d hd), fun d hd _ z => ?_, fun z => absurd z (by decide), fun _ => h16 (by rw [h9]; decide), fun _ => r14, fun z => absurd z (by decide), fun _ => ⟨hn.1, hn.2, n2⟩⟩
  · by_cases y : d = c
    · rw [y, eR _ (by omega) (by omega) (by omega) (by omega) (by omega), ru_e]; simp
    · rw [e _ (by omega) (by omega) (by omega) (by omega) (by omega) (by omega)]; exact h11 d hd
  · by_cases y : d = c
    · rw [y, eR _ (by omega) (by omega) (by omega) (by omega) (by omega), ru_e]
      refine ⟨fun z => absurd z (by decide), fun z => ?_⟩
      have := (h12 c hc).mpr z
      rw [hw, show (3 : Int32) = Int32.ofNat 3 from rfl, nn_eq (by omega) (by omega)] at this
      omega
    · rw [e _ (by omega) (by omega) (by omega) (by omega) (by omega) (by omega)]; exact h12 d hd
  · rw [R70 d hd] at z; exact absurd z (by decide)
theorem TV.peg {r : Nat → Int32} {p : Nat} {y : Int32} (h : TV r) (hp : p < 2) (hy : 0 ≤ y.toInt ∧ y.toInt ≤ 1000000) : TV (pgP r p y) := by
  have q0 : 0 ≤ (r 16).toInt ∧ (r 16).toInt ≤ 9999 := h.2.2.2.2.2.2.2.2.1
  have q1 : 0 ≤ (r 17).toInt ∧ (r 17).toInt ≤ 9999 := h.2.2.2.2.2.2.2.2.2.1
  unfold pgP
  obtain rfl | rfl : p = 0 ∨ p = 1 := by omega
  · refine h.row1 (fun k a b c d e => ru_n (by omega)) (Or.inl (ru_n (by omega))) ?_ ?_
    · rw [show (16 : Nat) = 16 + 0 from rfl, ru_e]; exact (pg_eq q0 hy).2
    · rw [ru_n (by decide)]; exact q1
  · refine h.row1 (fun k a b c d e => ru_n (by omega)) (Or.inl (ru_n (by omega))) ?_ ?_
    · rw [ru_n (by decide)]; exact q0
    · rw [show (17 : Nat) = 16 + 1 from rfl, ru_e]; exact (pg_eq q1 hy).2
theorem TV.turn {r : Nat → Int32} {v : Int32} (h : TV r) (h9 : r 9 = 2) (hv : v = -1 ∨ v = 0 ∨ v = 1) : TV (ru r 14 v) :=
  h.row1 (fun k a b c d e => ru_n c) (Or.inr ⟨h9, by rw [ru_e]; exact hv⟩) (by rw [ru_n (by decide)]; exact h.2.2.2.2.2.2.2.2.1) (by rw [ru_n (by decide)]; exact h.2.2.2.2.2.2.2.2.2.1)
theorem tnP_v {V : Nat → Int32} {Bd : Nat → Bool} {r : Nat → Int32} {p : Nat} (hp : p < 2) : tnP V Bd r (Int32.ofNat (1 - p)) (Int32.ofNat p) = -1 ∨ tnP V Bd r (Int32.ofNat (1 - p)) (Int32.ofNat p) = 0 ∨ tnP V Bd r (Int32.ofNat (1 - p)) (Int32.ofNat p) = 1 := by
  unfold tnP
  obtain rfl | rfl : p = 0 ∨ p = 1 := by omega
  · split
    · split
      · exact Or.inl rfl
      · exact Or.inr (Or.inl rfl)
    · exact Or.inr (Or.inr rfl)
  · split
    · split
      · exact Or.inl rfl
      · exact Or.inr (Or.inr rfl)
    · exact Or.inr (Or.inl rfl)
theorem lyC_at {r : Nat → Int32} {k : Nat} (h16 : k ≠ 16) (h17 : k ≠ 17) (hd : r 10 = 0 ∨ r 10 = 1) : lyC r k = r k := by
  unfold lyC pgP
  obtain ⟨d, d1, d2⟩ := pl_nn hd
  split
  · rw [d2, nn_ix (by omega), ru_n (by omega)]
  · rfl
theorem TV.lay3 {r : Nat → Int32} (h : TV r) : TV (lyC r) := by
  obtain ⟨d, d1, d2⟩ := pl_nn h.2.2.1
  unfold lyC
  split
  · rw [d2, nn_ix (by omega)]; exact h.peg d1 (by decide)
  · exact h
theorem TV.lay4 {V : Nat → Int32} {Bd : Nat → Bool} {r : Nat → Int32} (h : TV r) (h9 : r 9 = 2) : TV (lyD V Bd r) := by
  obtain ⟨d, d1, d2⟩ := pl_nn h.2.2.1
  unfold lyD
  rw [d2, one_minus d1]
  exact h.turn h9 (tnP_v d1)
theorem TV.layP {V : Nat → Int32} {Bd : Nat → Bool} {r : Nat → Int32} {c p : Nat} (h : TV r) (h9 : r 9 = 1) (hc : c < 52) (hp : p < 2) (hw : r (18 + c) = Int32.ofNat p) (h5 : 5 ≤ nAt r (Int32.ofNat p)) : TV (lyP V Bd r c) := by
  unfold lyP
  by_cases z : nAt (ru r (18 + c) 2) 0 = 4 ∧ nAt (ru r (18 + c) 2) 1 = 4
  · rw [if_pos z]
    have t2 := h.lay2 h9 hc hp hw z
    refine t2.lay3.lay4 ?_
    rw [lyC_at (by decide) (by decide) t2.2.2.1]; rfl
  · rw [if_neg z]; exact h.lay1 h9 hc hp hw h5 z
