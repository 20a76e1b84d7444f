/-! ===== two memories: the class's and the reference's ===== -/
def HR2 (A B : Mem) (h u : Nat) : Prop := ∃ f n, f < 16 ∧ n ≤ 16 ∧ mI A h 2 = Int32.ofNat f ∧ mI A h 3 = Int32.ofNat n ∧ mI B u 8 = Int32.ofNat n ∧ ∀ i, i < n → TR A (hT h ((f + i) % 16)) (snap B u i) ∧ TV (snap B u i) ∧ mI A (h + 2) ((f + i) % 16) = mI B (u + 6) i ∧ ∃ k, k < 4 ∧ mI B (u + 6) i = Int32.ofNat k
theorem HR2.keep {A A' B B' : Mem} {h u : Nat} (x : HR2 A B h u) (e : ∀ q, h ≤ q → q < h + 67 → Ea A A' q) (e5 : mI B' (u + 5) = mI B (u + 5)) (e6 : mI B' (u + 6) = mI B (u + 6)) (e8 : mI B' u 8 = mI B u 8) : HR2 A' B' h u := by
  obtain ⟨f, n, h1, h2, h3, h4, h5, h6⟩ := x
  have e0 := e h (by omega) (by omega)
  refine ⟨f, n, h1, h2, by rw [e0.1]; exact h3, by rw [e0.1]; exact h4, by rw [e8]; exact h5, fun i hi => ?_⟩
  obtain ⟨a1, a2, a3, a4⟩ := h6 i hi
  have hs : snap B' u i = snap B u i := by unfold snap; rw [e5]
  have hm : (f + i) % 16 < 16 := Nat.mod_lt _ (by decide)
  rw [hs, e6, (e (h + 2) (by omega) (by omega)).1]
  refine ⟨a1.keep ?_ ?_ ?_ ?_, a2, a3, a4⟩ <;> exact e _ (by unfold hT; omega) (by unfold hT; omega)
theorem HR.two {M : Mem} {h u : Nat} (x : HR M h u) : HR2 M M h u := x
theorem HR2.one {M : Mem} {h u : Nat} (x : HR2 M M h u) : HR M h u := x
/-- pushed on both sides -/
theorem HR2.push {A A' B B' : Mem} {h u p kd : Nat} (x : HR2 A B h u) (hp : p + 4 ≤ h ∨ h + 67 ≤ p) (hT0 : TR A p (mI B (u + 2))) (hV : TV (mI B (u + 2))) (hk : kd < 4) (e1 : FX4_push h p (Int32.ofNat kd) A = some A') (e2 : FX12_remember u (Int32.ofNat kd) B = some B') : HR2 A' B' h u ∧ Eo (fun q => h ≤ q ∧ q < h + 67) A A' ∧ Eo (fun q => q = u + 5 ∨ q = u + 6 ∨ q = u) B B' ∧ (∀ k, k ≠ 8 → mI B' u k = mI B u k) ∧ mJ B' u = mJ B u ∧ (∀ k, 1952 ≤ k → mI B' (u + 5) k = mI B (u + 5) k) := by
  obtain ⟨f, n, hf, hn, h3, h4, h5, h6⟩ := x
  obtain ⟨X, x1, x2, x3, x4, x5, x6, x7⟩ := push_so (kd := Int32.ofNat kd) hp hT0 hn hf h3 h4
  rw [e1] at x1
  obtain rfl := Option.some.inj x1
  obtain ⟨Y, y1, y2, y3, y4, y5, y6, y7, y8, y9, y10, y11⟩ := remember_so (s := Int32.ofNat kd) hn h5
  rw [e2] at y1
  obtain rfl := Option.some.inj y1
  refine ⟨?_, x2, y2, y3, y4, y11⟩
  generalize hn' : (if n = 16 then 15 else n) = n' at x3 x4 x5 x6 x7 y6 y7 y8 y9 y10
  generalize hf' : (if n = 16 then (f + 1) % 16 else f) = f' at x3 x4 x5 x6 x7
  have hn2 : n' ≤ 15 := by rw [← hn']; by_cases z : n = 16 <;> simp only [z, if_true, if_false] <;> omega
  have hf2 : f' < 16 := by rw [← hf']; by_cases z : n = 16 <;> simp only [z, if_true, if_false] <;> omega
  refine ⟨f', n' + 1, hf2, by omega, x3, x4, y6, fun i hi => ?_⟩
  by_cases z : i = n'
  · subst z
    have e : ∀ k, 8 ≤ k → k < 130 → snap B' u i k = mI B (u + 2) k := fun k a b => by
      obtain ⟨j, rfl⟩ : ∃ j, k = 8 + j := ⟨k - 8, by omega⟩
      rw [snap_hd, y7 j (by omega)]
    exact ⟨x5.row e, hV.row e, by rw [x6, y8], kd, hk, y8⟩
  · have hi2 : i < n' := by omega
    generalize hi0 : (if n = 16 then i + 1 else i) = i0
    have hin : i0 < n := by
      rw [← hi0]
      by_cases y : n = 16
      · rw [if_pos y]; rw [if_pos y] at hn'; omega
      · rw [if_neg y]; rw [if_neg y] at hn'; omega
    have hmod : (f' + i) % 16 = (f + i0) % 16 := by
      rw [← hi0, ← hf']
      by_cases y : n = 16
      · rw [if_pos y, if_pos y]; omega
      · rw [if_neg y, if_neg y]
    obtain ⟨a1, a2, a3, a4⟩ := h6 i0 hin
    have hlt : (f' + i) % 16 < 16 := Nat.mod_lt _ (by decide)
    obtain ⟨b1, b2⟩ := x7 ((f' + i) % 16) hlt (by omega)
    have e : ∀ k, 8 ≤ k → k < 130 → snap B' u i k = snap B u i0 k := fun k a b => by
      obtain ⟨j, rfl⟩ : ∃ j, k = 8 + j := ⟨k - 8, by omega⟩
      rw [snap_hd, snap_hd, y9 i j hi2 (by omega), hi0]
    rw [hmod] at b1 b2
    rw [hmod, y10 i hi2, hi0, b2]
    exact ⟨(a1.keep (b1 0 (by decide)) (b1 1 (by decide)) (b1 2 (by decide)) (b1 3 (by decide))).row e, a2.row e, a3, a4⟩
theorem push_some {A B : Mem} {h u p : Nat} {kd : Int32} (x : HR2 A B h u) (hp : p + 4 ≤ h ∨ h + 67 ≤ p) (hT0 : TR A p (mI B (u + 2))) : (∃ A', FX4_push h p kd A = some A') ∧ ∃ B', FX12_remember u kd B = some B' := by
  obtain ⟨f, n, hf, hn, h3, h4, h5, h6⟩ := x
  obtain ⟨X, x1, _⟩ := push_so (kd := kd) hp hT0 hn hf h3 h4
  obtain ⟨Y, y1, _⟩ := remember_so (s := kd) hn h5
  exact ⟨⟨X, x1⟩, ⟨Y, y1⟩⟩
/-! ===== a deal's owners ===== -/
theorem dlO_val {s d : Nat} (hd : d < 2) : ∀ i, i ≤ 12 → ∀ c, dlO s d i c = -1 ∨ dlO s d i c = 0 ∨ dlO s d i c = 1 := by
  intro i
  induction i with
  | zero => intro _ c; exact Or.inl rfl
  | succ i ih =>
    intro hi c
    show (if c = dlC s i then (if i = 12 then 3 else Int32.ofNat (if i % 2 = 1 then d else 1 - d)) else dlO s d i c) = -1 ∨ (if c = dlC s i then (if i = 12 then 3 else Int32.ofNat (if i % 2 = 1 then d else 1 - d)) else dlO s d i c) = 0 ∨ (if c = dlC s i then (if i = 12 then 3 else Int32.ofNat (if i % 2 = 1 then d else 1 - d)) else dlO s d i c) = 1
    by_cases z : c = dlC s i
    · rw [if_pos z, if_neg (by omega)]
      have hx2 : (if i % 2 = 1 then d else 1 - d) < 2 := by split <;> omega
      generalize (if i % 2 = 1 then d else 1 - d) = x at hx2 ⊢
      obtain rfl | rfl : x = 0 ∨ x = 1 := by omega
      · exact Or.inr (Or.inl rfl)
      · exact Or.inr (Or.inr rfl)
    · rw [if_neg z]; exact ih (by omega) c
theorem dlO_cnt {s d p : Nat} (hd : d < 2) (hp : p < 2) : ∀ i, i ≤ 12 → (cs (fun c => decide (dlO s d i c = Int32.ofNat p))).length = if p = d then i / 2 else (i + 1) / 2 := by
  intro i
  induction i with
  | zero =>
    intro _
    have : cs (fun c => decide (dlO s d 0 c = Int32.ofNat p)) = [] := by
      unfold cs
      refine List.filter_eq_nil_iff.mpr (fun c hc => ?_)
      show ¬ decide ((-1 : Int32) = Int32.ofNat p) = true
      obtain rfl | rfl : p = 0 ∨ p = 1 := by omega
      all_goals decide
    rw [this]
    by_cases z : p = d
    · rw [if_pos z]; rfl
    · rw [if_neg z]; rfl
  | succ i ih =>
    intro hi
    have ih := ih (by omega)
    have e : (fun c => decide (dlO s d (i + 1) c = Int32.ofNat p)) = fun c => (decide (dlO s d i c = Int32.ofNat p) || (decide (p = if i % 2 = 1 then d else 1 - d) && decide (c = dlC s i))) := funext fun c => dlO_new (by omega) hp hd
    rw [e]
    obtain ⟨hc, hl⟩ := dlC_in (s0 := s) (i := i) (by omega)
    have hm : decide (dlO s d i (dlC s i) = Int32.ofNat p) = false := by
      rw [dlO_left i _ hl]
      obtain rfl | rfl : p = 0 ∨ p = 1 := by omega
      all_goals decide
    by_cases y : p = if i % 2 = 1 then d else 1 - d
    · have e2 : (fun c => (decide (dlO s d i c = Int32.ofNat p) || (decide (p = if i % 2 = 1 then d else 1 - d) && decide (c = dlC s i)))) = fun c => (decide (dlO s d i c = Int32.ofNat p) || decide (c = dlC s i)) := by
        funext c; rw [decide_eq_true y, Bool.true_and]
      rw [e2, cs_ins _ _ hm hc, ih]
      by_cases w : i % 2 = 1
      · rw [if_pos w] at y
        rw [if_pos y, if_pos y]; omega
      · rw [if_neg w] at y
        rw [if_neg (by omega), if_neg (by omega)]; omega
    · have e2 : (fun c => (decide (dlO s d i c = Int32.ofNat p) || (decide (p = if i % 2 = 1 then d else 1 - d) && decide (c = dlC s i)))) = fun c => decide (dlO s d i c = Int32.ofNat p) := by
        funext c; rw [decide_eq_false y, Bool.false_and, Bool.or_false]
      rw [e2, ih]
      by_cases w : i % 2 = 1
      · rw [if_pos w] at y
        rw [if_neg y, if_neg y]; omega
      · rw [if_neg w] at y
        rw [if_pos (by omega), if_pos (by omega)]; omega
theorem dlO13 {s d : Nat} (c : Nat) : dlO s d 13 c = if c = dlC s 12 then 3 else dlO s d 12 c := rfl
theorem cs_cg {P R : Nat → Bool} (h : ∀ c, c < 52 → P c = R c) : cs P = cs R := by
  unfold cs
  exact List.filter_congr (fun c hc => h c (List.mem_range.mp hc))
theorem dlO13_cnt {s d p : Nat} (hd : d < 2) (hp : p < 2) : (cs (fun c => decide (dlO s d 13 c = Int32.ofNat p))).length = 6 := by
  have h := dlO_cnt (s := s) hd hp 12 (by omega)
  have e : cs (fun c => decide (dlO s d 13 c = Int32.ofNat p)) = cs (fun c => decide (dlO s d 12 c = Int32.ofNat p)) := cs_cg (fun c hc => by
    rw [dlO13]
    by_cases z : c = dlC s 12
    · rw [if_pos z, dlO_left 12 c (by rw [z]; exact (dlC_in (by omega)).2)]
      obtain rfl | rfl : p = 0 ∨ p = 1 := by omega
      all_goals decide
    · rw [if_neg z])
  rw [e, h]
  split <;> rfl
theorem dlO13_v {s d : Nat} (hd : d < 2) (c : Nat) : (dlO s d 13 c = -1 ∨ dlO s d 13 c = 0 ∨ dlO s d 13 c = 1 ∨ dlO s d 13 c = 3) ∧ (dlO s d 13 c = 3 ↔ c = dlC s 12) := by
  rw [dlO13]
  by_cases z : c = dlC s 12
  · rw [if_pos z]; exact ⟨Or.inr (Or.inr (Or.inr rfl)), fun _ => z, fun _ => rfl⟩
  · rw [if_neg z]
    rcases dlO_val (s := s) hd 12 (by omega) c with h | h | h <;> rw [h]
    · exact ⟨Or.inl rfl, fun w => absurd w (by decide), fun w => absurd w z⟩
    · exact ⟨Or.inr (Or.inl rfl), fun w => absurd w (by decide), fun w => absurd w z⟩
    · exact ⟨Or.inr (Or.inr (Or.inl rfl)), fun w => absurd w (by decide), fun w => absurd w z⟩
theorem cs_nil {P : Nat → Bool} (h : ∀ c, c < 52 → P c = false) : cs P = [] := by
  unfold cs
  exact List.filter_eq_nil_iff.mpr (fun c hc => by rw [h c (List.mem_range.mp hc)]; decide)
/-- the table behind a deal -/
theorem deal_TV {u s d : Nat} {M N : Mem} (hd : d < 2) (h : DiE u s d M N) (hV : TV (mI M (u + 2))) (h8 : (mI M (u + 2) 8).toInt < 999) : TV (mI N (u + 2)) := by
  obtain ⟨_, _, hc, e8, e9, e10, e11, e12, e13, e14, e15, eo⟩ := h
  obtain ⟨⟨v1, _⟩, _, _, _, _, _, _, _, v9, v10, _⟩ := hV
  have hg := (dlC_in (s0 := s) (i := 12) (by omega)).1
  have d1 : (2 : Int32) ≠ 1 := by decide
  have n8 : (mI N (u + 2) 8).toInt = (mI M (u + 2) 8).toInt + 1 := by rw [e8, i_add] <;> rw [show (1 : Int32).toInt = 1 from rfl] <;> omega
  have k0 : (cs (fun c => decide (mI N (u + 2) (18 + c) = 0))).length = 6 := by
    rw [show cs (fun c => decide (mI N (u + 2) (18 + c) = 0)) = cs (fun c => decide (dlO s d 13 c = Int32.ofNat 0)) from cs_cg (fun c h => by rw [(hc c h).1]; rfl)]
    exact dlO13_cnt hd (by decide)
  have k1 : (cs (fun c => decide (mI N (u + 2) (18 + c) = 1))).length = 6 := by
    rw [show cs (fun c => decide (mI N (u + 2) (18 + c) = 1)) = cs (fun c => decide (dlO s d 13 c = Int32.ofNat 1)) from cs_cg (fun c h => by rw [(hc c h).1]; rfl)]
    exact dlO13_cnt hd (by decide)
  have k2 : (cs (fun c => decide (mI N (u + 2) (18 + c) = 2))).length = 0 := by
    rw [cs_nil (fun c h => ?_)]
    · rfl
    · rw [(hc c h).1]
      rcases (dlO13_v (s := s) hd c).1 with z | z | z | z <;> rw [z] <;> decide
  unfold TV
  rw [e9, e10, e11, e12, e13, e14, e15, k0, k1, k2, eo 16 (by omega), eo 17 (by omega), n8]
  refine ⟨by omega, Or.inr (Or.inl rfl), ?_, Or.inr ⟨_, hg, rfl⟩, by decide, ⟨0, by omega, rfl, by omega, fun k hk => absurd hk (by omega)⟩, Or.inl rfl, Or.inl rfl, v9, v10, fun c hc' => ?_, fun c hc' => ?_, fun c hc' => Or.inl (hc c hc').2, fun c hc' z0 => absurd z0 (by decide), fun z => absurd z (by decide), fun _ z => ?_, fun _ => rfl, fun _ => by omega, fun z => absurd z (by decide)⟩
  · obtain rfl | rfl : d = 0 ∨ d = 1 := by omega
    · exact Or.inl rfl
    · exact Or.inr rfl
  · rw [(hc c hc').1]
    rcases (dlO13_v (s := s) hd c).1 with z | z | z | z <;> simp only [z, true_or, or_true]
  · rw [(hc c hc').1, nn_eq (by omega) (by omega)]
    exact (dlO13_v (s := s) hd c).2.trans ⟨fun z => z.symm, fun z => z.symm⟩
  · have := congrArg Int32.toInt z
    rw [nn_int (by omega), show (-1 : Int32).toInt = -1 from rfl] at this
    omega
theorem deal_TR {b u s d : Nat} {A A' B B' : Mem} (hd : d < 2) (hC : DoE b s d A A') (hR : DiE u s d B B') (hT0 : TR A b (mI B (u + 2))) : TR A' b (mI B' (u + 2)) := by
  obtain ⟨_, _, hc, e8, e9, e10, e11, e12, e13, e14, e15, eo⟩ := hR
  obtain ⟨c0, c1, c2, c3, c4, c5, c6, c7, c8, c9, c10, c11, c12⟩ := hC
  obtain ⟨_, _, _, _, _, _, _, _, _, _, _, t12, t13, t14, t15⟩ := hT0
  refine ⟨c1.congr (fun c h => by rw [(hc c h).1]; rfl), c2.congr (fun c h => by rw [(hc c h).1]; rfl), ?_, ?_, by rw [c5, e9], by rw [c6, e10], by rw [c7, e11], by rw [c8, e13], by rw [c9, e12], by rw [c10, e14], by rw [c11, e15], by rw [c12, e8, t12], ?_, ?_, fun k hk => ?_⟩
  · rw [c3]; exact Bs.zero.congr (fun c h => by
      rw [(hc c h).1]
      rcases (dlO13_v (s := s) hd c).1 with z | z | z | z <;> rw [z] <;> decide)
  · rw [c4]; exact Bs.zero.congr (fun c h => by rw [(hc c h).2]; decide)
  · rw [(c0 (b + 2) (by omega)).1, eo 16 (by omega)]; exact t13
  · rw [(c0 (b + 2) (by omega)).1, eo 17 (by omega)]; exact t14
  · rw [(c0 (b + 3) (by omega)).1, eo _ (by omega)]; exact t15 k hk
