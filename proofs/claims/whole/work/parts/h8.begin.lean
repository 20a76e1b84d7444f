/-! ===== the first memory: two new objects ===== -/
theorem put_J {M U : Mem} {a S o : Nat} (h : o < S) : mJ (put M a S U) (a + o) = U.2.1 o := by
  show (if a ≤ a + o ∧ a + o < a + S then U.2.1 (a + o - a) else M.2.1 (a + o)) = _
  rw [if_pos (by omega), Nat.add_sub_cancel_left]
theorem row_cells : (∀ c, c < 52 → T_X12_init.1 2 (18 + c) = -1 ∧ T_X12_init.1 2 (70 + c) = 0 ∧ T_X12_init.1 2 (130 + c) = 0) ∧ (∀ k, k < 18 → T_X12_init.1 2 k = ([0, 0, -1, 0, 0, 1, 0, 15, 0, 0, 1, -1, 0, 0, -1, -1, 0, 0] : List Int32).getD k 0) ∧ ∀ k, k < 8 → T_X12_init.1 2 (122 + k) = 0 := by decide +kernel
theorem tab_cells : T_X11_init.2.1 3 0 = 0 ∧ T_X11_init.2.1 3 1 = 0 ∧ T_X11_init.2.1 2 3 = 0 ∧ T_X11_init.2.1 2 4 = 0 ∧ (∀ k, k < 13 → 5 ≤ k → T_X11_init.1 2 k = ([0, 1, -1, 0, 0, -1, -1, 0] : List Int32).getD (k - 5) 0) ∧ T_X11_init.1 4 0 = 0 ∧ T_X11_init.1 4 1 = 0 ∧ ∀ k, k < 8 → T_X11_init.1 5 k = 0 := by decide +kernel
theorem state_cells : T_X11_init.2.1 1 5 = 0 ∧ T_X11_init.1 1 6 = 0 ∧ T_X11_init.1 1 7 = 0 ∧ T_X11_init.1 1 8 = -1 ∧ T_X11_init.1 9 0 = 1 ∧ T_X11_init.1 9 1 = 0 ∧ T_X11_init.1 9 2 = 15 := by decide +kernel
theorem other_cells : T_X11_init.1 29 2 = 0 ∧ T_X11_init.1 29 3 = 0 ∧ T_X11_init.1 11 9 = 0 ∧ T_X11_init.1 20 9 = 0 ∧ T_X11_init.1 171 2 = 0 ∧ T_X11_init.1 171 3 = -1 ∧ T_X11_init.1 0 16 = 0 ∧ T_X11_init.1 0 17 = 0 ∧ T_X11_init.1 0 18 = -1 ∧ (∀ j, j < 5 → T_X11_init.1 275 j = 0) ∧ T_X11_init.1 276 0 = -1 ∧ T_X11_init.1 276 1 = -1 ∧ (∀ k, k < 19 → 6 ≤ k → T_X11_init.1 181 k = 0 ∧ T_X11_init.1 193 k = 0) ∧ T_X11_init.1 179 5 = 0 ∧ T_X11_init.1 191 5 = 0 ∧ T_X11_init.2.2.2 174 = 800 ∧ T_X11_init.2.2.2 175 = 72 := by decide +kernel
theorem ref_cells : T_X12_init.1 0 1 = 0 ∧ T_X12_init.1 0 8 = 0 ∧ T_X12_init.1 0 11 = 0 ∧ T_X12_init.1 0 13 = 0 ∧ T_X12_init.1 0 18 = -1 ∧ T_X12_init.1 0 20 = 0 ∧ T_X12_init.1 0 64 = -1 ∧ T_X12_init.1 0 67 = 0 ∧ T_X12_init.1 4 0 = 0 ∧ T_X12_init.1 4 1 = 0 ∧ ∀ j, j < 7 → T_X12_init.1 1 j = 0 := by decide +kernel
theorem word_cells : (∀ k, k < 6 → T_X12_init.2.1 15 k = Int64.ofNat (enc (WL.getD (([11, 12, 13, 14, 10, 15] : List Nat).getD k 0) []))) ∧ (∀ k, k < 7 → T_X12_init.2.1 16 k = Int64.ofNat (enc (WL.getD (16 + k) []))) ∧ (∀ k, k < 7 → T_X12_init.2.1 17 k = Int64.ofNat (enc (WL.getD k []))) ∧ (∀ k, k < 4 → T_X12_init.2.1 39 k = Int64.ofNat (enc (WL.getD (([10, 7, 8, 9] : List Nat).getD k 0) []))) := by decide +kernel
theorem bs0 {P : Nat → Bool} (h : ∀ c, c < 52 → P c = false) : Bs 0 P := Bs.zero.congr (fun c hc => (h c hc).symm)
theorem start_TR {M : Mem} {b : Nat} {r : Nat → Int32} (hr : r = T_X12_init.1 2) (e0 : mI M b = T_X11_init.1 2) (e1 : mJ M b = T_X11_init.2.1 2) (e2 : mJ M (b + 1) = T_X11_init.2.1 3) (e3 : mI M (b + 2) = T_X11_init.1 4) (e4 : mI M (b + 3) = T_X11_init.1 5) : TR M b r := by
  obtain ⟨c1, c2, c3⟩ := row_cells
  obtain ⟨d1, d2, d3, d4, d5, d6, d7, d8⟩ := tab_cells
  unfold TR
  rw [hr, e0, e1, e2, e3, e4, d1, d2, d3, d4, d6, d7]
  refine ⟨bs0 (fun c hc => by rw [(c1 c hc).1]; rfl), bs0 (fun c hc => by rw [(c1 c hc).1]; rfl), bs0 (fun c hc => by rw [(c1 c hc).1]; rfl), bs0 (fun c hc => by rw [(c1 c hc).2.1]; rfl), ?_, ?_, ?_, ?_, ?_, ?_, ?_, ?_, ?_, ?_, fun k hk => ?_⟩
  · rw [d5 5 (by decide) (by decide), c2 9 (by decide)]; rfl
  · rw [d5 6 (by decide) (by decide), c2 10 (by decide)]; rfl
  · rw [d5 7 (by decide) (by decide), c2 11 (by decide)]; rfl
  · rw [d5 8 (by decide) (by decide), c2 13 (by decide)]; rfl
  · rw [d5 9 (by decide) (by decide), c2 12 (by decide)]; rfl
  · rw [d5 10 (by decide) (by decide), c2 14 (by decide)]; rfl
  · rw [d5 11 (by decide) (by decide), c2 15 (by decide)]; rfl
  · rw [d5 12 (by decide) (by decide), c2 8 (by decide)]; rfl
  · rw [c2 16 (by decide)]; rfl
  · rw [c2 17 (by decide)]; rfl
  · rw [d8 k hk, c3 k hk]
theorem start_TV : TV (T_X12_init.1 2) := by
  obtain ⟨c1, c2, c3⟩ := row_cells
  have g : ∀ k, k < 18 → T_X12_init.1 2 k = ([0, 0, -1, 0, 0, 1, 0, 15, 0, 0, 1, -1, 0, 0, -1, -1, 0, 0] : List Int32).getD k 0 := c2
  unfold TV
  rw [g 8 (by decide), g 9 (by decide), g 10 (by decide), g 11 (by decide), g 12 (by decide), g 13 (by decide), g 14 (by decide), g 15 (by decide), g 16 (by decide), g 17 (by decide)]
  refine ⟨by decide, Or.inl rfl, Or.inr rfl, Or.inl rfl, by decide, ⟨0, by decide, rfl, Nat.zero_le _, fun k hk => absurd hk (by omega)⟩, Or.inl rfl, Or.inl rfl, by decide, by decide, fun c hc => Or.inl (c1 c hc).1, fun c hc => ⟨fun z => ?_, fun z => ?_⟩, fun c hc => Or.inl (c1 c hc).2.1, fun c hc z => absurd z (by decide), fun _ => ⟨fun c hc => (c1 c hc).1, rfl⟩, fun z => absurd rfl z, fun _ => rfl, fun z => absurd z (by decide), fun z => by rcases z with z | z <;> exact absurd z (by decide)⟩
  · rw [(c1 c hc).1] at z; exact absurd z (by decide)
  · have := congrArg Int32.toInt z
    rw [nn_int (by omega), show (([0, 0, -1, 0, 0, 1, 0, 15, 0, 0, 1, -1, 0, 0, -1, -1, 0, 0] : List Int32).getD 11 0).toInt = -1 from rfl] at this
    omega
theorem start_inv (t : Nat) (M : Mem) : Inv t (t + 277) (t + 319) (put (put M t 277 T_X11_init) (t + 277) 42 T_X12_init) := by
  generalize hN : put (put M t 277 T_X11_init) (t + 277) 42 T_X12_init = N
  have ea : ∀ o, o < 277 → Ea (put M t 277 T_X11_init) N (t + o) := fun o ho => by rw [← hN]; exact put_out (Or.inl (by omega))
  have aI : ∀ o, o < 277 → mI N (t + o) = T_X11_init.1 o := fun o ho => by rw [(ea o ho).1]; funext k; exact put_I ho
  have aJ : ∀ o, o < 277 → mJ N (t + o) = T_X11_init.2.1 o := fun o ho => by rw [(ea o ho).2.1]; exact put_J ho
  have aN : ∀ o, o < 277 → mN N (t + o) = T_X11_init.2.2.2 o := fun o ho => by rw [(ea o ho).2.2.2]; exact put_N ho
  have bI : ∀ o, o < 42 → mI N (t + 277 + o) = T_X12_init.1 o := fun o ho => by rw [← hN]; funext k; exact put_I ho
  have bJ : ∀ o, o < 42 → mJ N (t + 277 + o) = T_X12_init.2.1 o := fun o ho => by rw [← hN]; exact put_J ho
  obtain ⟨c1, c2, c3⟩ := row_cells
  obtain ⟨s1', s2, s3, s4, s5, s6, s7⟩ := state_cells
  obtain ⟨o1, o2, o3, o4, o5, o6, o7, o8, o9, o10, o11, o12, o13, o14, o15, o16, o17⟩ := other_cells
  obtain ⟨r1, r2, r3, r4, r5, r6, r7, r8, r9, r10, r11⟩ := ref_cells
  have t0 : mI N t = T_X11_init.1 0 := aI 0 (by decide)
  have u0 : mI N (t + 277) = T_X12_init.1 0 := bI 0 (by decide)
  have row : mI N (t + 277 + 2) = T_X12_init.1 2 := bI 2 (by decide)
  have hw : ∀ w, w = 179 ∨ w = 191 → WR (fun _ => (0, fun _ => (0, 0, none, none, none))) N (t + 277 + 42) (t + 319) (t + w) := fun w hw => by
    have w5 : mI N (t + w) 5 = 0 := by
      rcases hw with rfl | rfl
      · rw [aI 179 (by decide)]; exact o14
      · rw [aI 191 (by decide)]; exact o15
    refine ⟨fun k k1 k2 => ?_, Or.inl w5, fun z => by rw [w5] at z; exact absurd z (by decide)⟩
    rcases hw with rfl | rfl
    · rw [show mI N (t + 179 + 2) = T_X11_init.1 181 from aI 181 (by decide)]; exact (o13 k k2 k1).1
    · rw [show mI N (t + 191 + 2) = T_X11_init.1 193 from aI 193 (by decide)]; exact (o13 k k2 k1).2
  refine ⟨fun _ => (0, fun _ => (0, 0, none, none, none)), rfl, Nat.le_refl _, ⟨start_TR row (aI 2 (by decide)) (aJ 2 (by decide)) (aJ 3 (by decide)) (aI 4 (by decide)) (aI 5 (by decide)), by rw [row]; exact start_TV, ⟨?_, fun c hc => ?_, ?_⟩, ⟨0, by decide, ?_, ?_, fun k hk => absurd hk (by omega)⟩, ⟨0, by decide, ?_, ?_, ?_, Or.inl ?_, fun i hi => absurd hi (by omega)⟩, ?_⟩, fun k hk => ?_, ⟨0, 0, by decide, by decide, ?_, ?_, ?_, fun i hi => absurd hi (by omega)⟩, ⟨0, by decide, ?_, ?_, fun k hk => absurd hk (by omega)⟩, ⟨?_, ?_, ?_, ?_, fun j hj => ?_, Or.inl ⟨?_, ?_, ?_⟩⟩, hw 179 (Or.inl rfl), hw 191 (Or.inr rfl), ⟨?_, ?_, ?_, ?_⟩, ?_, ?_, ?_⟩
  · rw [row, aJ 1 (by decide), s1']
    exact bs0 (fun c hc => by rw [(c1 c hc).2.2]; rfl)
  · rw [row]; exact Or.inl (c1 c hc).2.2
  · rw [row, cs_nil (fun c hc => by rw [(c1 c hc).2.2]; rfl)]
    exact Nat.zero_le _
  · rw [aI 1 (by decide)]; exact s2
  · rw [row, c2 0 (by decide)]; rfl
  · rw [aI 1 (by decide)]; exact s3
  · rw [row, c2 1 (by decide)]; rfl
  · rw [aI 1 (by decide), row, c2 2 (by decide), s4]; rfl
  · rw [row, c2 2 (by decide)]; rfl
  · unfold SRt
    rw [show mI N (t + 1 + 8) = T_X11_init.1 9 from aI 9 (by decide), row, c2 5 (by decide), c2 6 (by decide), c2 7 (by decide), s5, s6, s7]
    decide
  · obtain rfl | rfl : k = 0 ∨ k = 1 := by omega
    · rw [show mI N (t + 277 + 4) = T_X12_init.1 4 from bI 4 (by decide), show mI N (t + 11 + 9 * 0) = T_X11_init.1 11 from aI 11 (by decide), r9, o3]
      exact ⟨Or.inl rfl, rfl, fun z => absurd z (by decide)⟩
    · rw [show mI N (t + 277 + 4) = T_X12_init.1 4 from bI 4 (by decide), show mI N (t + 11 + 9 * 1) = T_X11_init.1 20 from aI 20 (by decide), r10, o4]
      exact ⟨Or.inl rfl, rfl, fun z => absurd z (by decide)⟩
  · rw [aI 29 (by decide)]; exact o1
  · rw [aI 29 (by decide)]; exact o2
  · rw [u0]; exact r2
  · rw [aI 171 (by decide)]; exact o5
  · rw [u0]; exact r4
  · rw [t0, u0, o7, r1]
  · rw [t0, u0, o8, r3]
  · rw [t0, u0, o9, r7]
  · rw [aI 171 (by decide), u0, o6, r5]
  · rw [aI 275 (by decide), show mI N (t + 277 + 1) = T_X12_init.1 1 from bI 1 (by decide), o10 j hj, r11 (rfJ j) (by have := (rfC_k j hj).1; omega)]
  · rw [u0]; exact r8
  · rw [aI 276 (by decide)]; exact o11
  · rw [aI 276 (by decide)]; exact o12
  · rw [bJ 15 (by decide)]; exact word_cells.1
  · rw [bJ 16 (by decide)]; exact word_cells.2.1
  · rw [bJ 17 (by decide)]; exact word_cells.2.2.1
  · rw [bJ 39 (by decide)]; exact word_cells.2.2.2
  · rw [aN 174 (by decide)]; exact o16
  · rw [aN 175 (by decide)]; exact o17
  · rw [u0]; exact r6
theorem st_all : StAll Inv := ⟨st_card, st_hand, st_terms, st_feed, st_end, st_row, st_jokers, st_law, st_orders, st_fault, st_stopped, st_force, st_deal, st_lay, st_play, st_show, st_undo, st_hold, st_drop, st_counted, st_kept, st_cribOf, st_byStarters, st_bestStarter, st_toEnd, st_seen, st_forget, st_canBe, st_ask, st_few, st_compare, st_rubbers, st_drawn, st_image, st_back, st_count, st_status⟩
