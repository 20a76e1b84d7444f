/-! ===== what holds between the calls ===== -/
def SRs (M : Mem) (b : Nat) (r : Nat → Int32) : Prop := ∃ n, n ≤ 6 ∧ mI M b 6 = Int32.ofNat n ∧ r 0 = Int32.ofNat n ∧ ∀ k, k < n → (∃ c, c < 52 ∧ r (182 + 2 * k) = Int32.ofNat c ∧ mI M (b + 5) k = Int32.ofNat c) ∧ ∃ m, m ≤ 999 ∧ r (183 + 2 * k) = Int32.ofNat m ∧ mI M (b + 6) k = Int32.ofNat m
def SRl (Λ : Lam) (M : Mem) (lo T b : Nat) (r : Nat → Int32) : Prop := ∃ n, n ≤ 6 ∧ mI M b 7 = Int32.ofNat n ∧ r 1 = Int32.ofNat n ∧ mI M b 8 = r 2 ∧ (r 2 = -1 ∨ ∃ k, k < n ∧ r 2 = Int32.ofNat k) ∧ ∀ i, i < n → ∃ a, mR M (b + 7) i = some a ∧ lo ≤ a ∧ a + 3 ≤ T ∧ TxV Λ M a ∧ ∃ len, RLw r (194 + 900 * i) (Λ a).1 len (Λ a).2
def SRt (M : Mem) (b : Nat) (r : Nat → Int32) : Prop := mI M (b + 8) 0 = r 5 ∧ mI M (b + 8) 1 = r 6 ∧ mI M (b + 8) 2 = r 7 ∧ (0 ≤ (r 5).toInt ∧ (r 5).toInt ≤ 10) ∧ (0 ≤ (r 6).toInt ∧ (r 6).toInt ≤ 9) ∧ (5 ≤ (r 7).toInt ∧ (r 7).toInt ≤ 31)
def SRh (M : Mem) (b : Nat) (r : Nat → Int32) : Prop := Bs (mJ M b 5) (fun c => decide (r (130 + c) = 1)) ∧ (∀ c, c < 52 → r (130 + c) = 0 ∨ r (130 + c) = 1) ∧ (cs (fun c => decide (r (130 + c) = 1))).length ≤ 6
/-- a State and a row -/
def SR (Λ : Lam) (M : Mem) (lo T b : Nat) (r : Nat → Int32) : Prop := TR M (b + 1) r ∧ TV r ∧ SRh M b r ∧ SRs M b r ∧ SRl Λ M lo T b r ∧ SRt M b r
theorem RLw.row {r r' : Nat → Int32} {p n len : Nat} {I : Nat → CI} (h : RLw r p n len I) (e : ∀ k, p ≤ k → k < p + 900 → r' k = r k) : RLw r' p n len I := by
  obtain ⟨h1, h2, h3, h4, h5, h6⟩ := h
  refine ⟨h1, h2, h3, by rw [e _ (by omega) (by omega)]; exact h4, ?_, h6⟩
  refine h5.cg (fun k hk => ⟨e _ (by omega) (by omega), e _ (by omega) (by omega)⟩) (fun k hk => e _ (by omega) (by omega)) (Nat.le_refl _)
theorem TV.row {r r' : Nat → Int32} (h : TV r) (e : ∀ k, 8 ≤ k → k < 130 → r' k = r k) : TV r' := by
  have c18 : ∀ p : Int32, cs (fun c => decide (r' (18 + c) = p)) = cs (fun c => decide (r (18 + c) = p)) := fun p => by
    unfold cs
    refine List.filter_congr (fun c hc => ?_)
    rw [e (18 + c) (by omega) (by have := List.mem_range.mp hc; omega)]
  have c70 : cs (fun c => decide (r' (70 + c) = 1)) = cs (fun c => decide (r (70 + c) = 1)) := by
    unfold cs
    refine List.filter_congr (fun c hc => ?_)
    rw [e (70 + c) (by omega) (by have := List.mem_range.mp hc; omega)]
  obtain ⟨h1, h2, h3, h4, h5, h6, h7, h8, h9, h10, h11, h12, h13, h14, h15, h16, h17, h18, h19⟩ := h
  unfold TV
  rw [c18, c18, c18, c70, e 8 (by omega) (by omega), e 9 (by omega) (by omega), e 10 (by omega) (by omega), e 11 (by omega) (by omega), e 12 (by omega) (by omega), e 13 (by omega) (by omega), e 14 (by omega) (by omega), e 15 (by omega) (by omega), e 16 (by omega) (by omega), e 17 (by omega) (by omega)]
  refine ⟨h1, h2, h3, h4, h5, ?_, h7, h8, h9, h10, fun c hc => ?_, fun c hc => ?_, fun c hc => ?_, fun c hc => ?_, fun z => ⟨fun c hc => ?_, (h15 z).2⟩, h16, h17, h18, h19⟩
  · obtain ⟨n, n1, n2, n3, n4⟩ := h6
    exact ⟨n, n1, n2, n3, fun k hk => by rw [e (122 + k) (by omega) (by omega)]; exact n4 k hk⟩
  · rw [e (18 + c) (by omega) (by omega)]; exact h11 c hc
  · rw [e (18 + c) (by omega) (by omega)]; exact h12 c hc
  · rw [e (70 + c) (by omega) (by omega)]; exact h13 c hc
  · rw [e (70 + c) (by omega) (by omega), e (18 + c) (by omega) (by omega)]; exact h14 c hc
  · rw [e (18 + c) (by omega) (by omega)]; exact (h15 z).1 c hc
theorem SRl.keep {Λ : Lam} {M N : Mem} {lo T T' b : Nat} {r : Nat → Int32} (h : SRl Λ M lo T b r) (e0 : mI N b = mI M b) (e7 : mR N (b + 7) = mR M (b + 7)) (eT : ∀ q, lo ≤ q → q < T → Ea M N q) (hT : T ≤ T') : SRl Λ N lo T' b r := by
  obtain ⟨n, h1, h2, h3, h4, h5, h6⟩ := h
  refine ⟨n, h1, by rw [e0]; exact h2, h3, by rw [e0]; exact h4, h5, fun i hi => ?_⟩
  obtain ⟨a, a1, a2, a3, a4, a5⟩ := h6 i hi
  exact ⟨a, by rw [e7]; exact a1, a2, by omega, a4.keep (eT _ (by omega) (by omega)) (eT _ (by omega) (by omega)) (eT _ (by omega) (by omega)), a5⟩
theorem SR.keep {Λ : Lam} {M N : Mem} {lo T T' b : Nat} {r : Nat → Int32} (h : SR Λ M lo T b r) (e : ∀ q, b ≤ q → q < b + 9 → Ea M N q) (eT : ∀ q, lo ≤ q → q < T → Ea M N q) (hT : T ≤ T') : SR Λ N lo T' b r := by
  obtain ⟨h1, h2, h3, h4, h5, h6⟩ := h
  have e0 := e b (by omega) (by omega)
  refine ⟨h1.keep (e _ (by omega) (by omega)) (e _ (by omega) (by omega)) (e _ (by omega) (by omega)) (e _ (by omega) (by omega)), h2, ?_, ?_, h5.keep e0.1 (e _ (by omega) (by omega)).2.2.1 eT hT, ?_⟩
  · unfold SRh; rw [e0.2.1]; exact h3
  · unfold SRs; rw [e0.1, (e (b + 5) (by omega) (by omega)).1, (e (b + 6) (by omega) (by omega)).1]; exact h4
  · unfold SRt; rw [(e (b + 8) (by omega) (by omega)).1]; exact h6
theorem SR.row {Λ : Lam} {M : Mem} {lo T b : Nat} {r r' : Nat → Int32} (h : SR Λ M lo T b r) (e : ∀ k, k < 5594 → r' k = r k) : SR Λ M lo T b r' := by
  obtain ⟨h1, h2, ⟨a1, a2, a3⟩, ⟨n, b1, b2, b3, b4⟩, ⟨m, c1, c2, c3, c4, c5, c6⟩, d1, d2, d3, d4, d5, d6⟩ := h
  refine ⟨h1.row (fun k _ hk => e k (by omega)), h2.row (fun k _ hk => e k (by omega)), ⟨a1.congr (fun c hc => by rw [e _ (by omega)]), fun c hc => by rw [e _ (by omega)]; exact a2 c hc, ?_⟩, ⟨n, b1, b2, by rw [e 0 (by omega)]; exact b3, fun k hk => ?_⟩, ⟨m, c1, c2, by rw [e 1 (by omega)]; exact c3, by rw [e 2 (by omega)]; exact c4, by rw [e 2 (by omega)]; exact c5, fun i hi => ?_⟩, by rw [e 5 (by omega)]; exact d1, by rw [e 6 (by omega)]; exact d2, by rw [e 7 (by omega)]; exact d3, by rw [e 5 (by omega)]; exact d4, by rw [e 6 (by omega)]; exact d5, by rw [e 7 (by omega)]; exact d6⟩
  · have : cs (fun c => decide (r' (130 + c) = 1)) = cs (fun c => decide (r (130 + c) = 1)) := by
      unfold cs
      refine List.filter_congr (fun c hc => ?_)
      rw [e (130 + c) (by have := List.mem_range.mp hc; omega)]
    rw [this]; exact a3
  · rw [e (182 + 2 * k) (by omega), e (183 + 2 * k) (by omega)]; exact b4 k hk
  · obtain ⟨a, x1, x2, x3, x4, len, x5⟩ := c6 i hi
    exact ⟨a, x1, x2, x3, x4, len, x5.row (fun k _ hk => e k (by omega))⟩
def snap (M : Mem) (u i : Nat) : Nat → Int32 := fun k => mI M (u + 5) (122 * i + k - 8)
/-- what can be undone -/
def HR (M : Mem) (h u : Nat) : Prop := ∃ f n, f < 16 ∧ n ≤ 16 ∧ mI M h 2 = Int32.ofNat f ∧ mI M h 3 = Int32.ofNat n ∧ mI M u 8 = Int32.ofNat n ∧ ∀ i, i < n → TR M (hT h ((f + i) % 16)) (snap M u i) ∧ TV (snap M u i) ∧ mI M (h + 2) ((f + i) % 16) = mI M (u + 6) i ∧ ∃ k, k < 4 ∧ mI M (u + 6) i = Int32.ofNat k
theorem HR.keep {M N : Mem} {h u : Nat} (x : HR M h u) (e : ∀ q, h ≤ q → q < h + 67 → Ea M N q) (e5 : mI N (u + 5) = mI M (u + 5)) (e6 : mI N (u + 6) = mI M (u + 6)) (e8 : mI N u 8 = mI M u 8) : HR N h u := by
  obtain ⟨f, n, h1, h2, h3, h4, h5, h6⟩ := x
  have e0 := e h (by omega) (by omega)
  refine ⟨f, n, h1, h2, by rw [e0.1]; exact h3, by rw [e0.1]; exact h4, by rw [e8]; exact h5, fun i hi => ?_⟩
  obtain ⟨a1, a2, a3, a4⟩ := h6 i hi
  have hs : snap N u i = snap M u i := by unfold snap; rw [e5]
  have hm : (f + i) % 16 < 16 := Nat.mod_lt _ (by decide)
  rw [hs, e6, (e (h + 2) (by omega) (by omega)).1]
  refine ⟨a1.keep ?_ ?_ ?_ ?_, a2, a3, a4⟩ <;> exact e _ (by unfold hT; omega) (by unfold hT; omega)
def IMr (Λ : Lam) (M : Mem) (t u T : Nat) : Prop := ∀ k, k < 2 → (mI M (u + 4) k = 0 ∨ mI M (u + 4) k = 1) ∧ mI M (t + 11 + 9 * k) 9 = mI M (u + 4) k ∧ (mI M (u + 4) k = 1 → SR Λ M (u + 42) T (t + 11 + 9 * k) (fun j => mI M (u + 3) (5594 * k + j)))
def rfJ (j : Nat) : Nat := ([1, 2, 3, 5, 6] : List Nat).getD j 0
def DrR (M : Mem) (t u : Nat) : Prop := (mI M u 67 = 0 ∧ mI M (t + 276) 0 = -1 ∧ mI M (t + 276) 1 = -1) ∨ (mI M u 67 = 1 ∧ mI M (t + 276) 0 = mI M (u + 41) 0 ∧ mI M (t + 276) 1 = mI M (u + 41) 1)
def MSr (M : Mem) (t u : Nat) : Prop := mI M t 16 = mI M u 1 ∧ mI M t 17 = mI M u 11 ∧ mI M t 18 = mI M u 64 ∧ mI M (t + 171) 3 = mI M u 18 ∧ (∀ j, j < 5 → mI M (t + 275) j = mI M (u + 1) (rfJ j)) ∧ DrR M t u
def KSr (M : Mem) (t u : Nat) : Prop := KW u M ∧ mN M (t + 174) = 800 ∧ mN M (t + 175) = 72 ∧ mI M u 20 = 0
def InvL (Λ : Lam) (t u T : Nat) (M : Mem) : Prop := u = t + 277 ∧ u + 42 ≤ T ∧ SR Λ M (u + 42) T (t + 1) (mI M (u + 2)) ∧ IMr Λ M t u T ∧ HR M (t + 29) u ∧ TP t u M ∧ MSr M t u ∧ WR Λ M (u + 42) T (t + 179) ∧ WR Λ M (u + 42) T (t + 191) ∧ KSr M t u
def Inv (t u T : Nat) (M : Mem) : Prop := ∃ Λ, InvL Λ t u T M
theorem IMr.keep {Λ : Lam} {M N : Mem} {t u T T' : Nat} (h : IMr Λ M t u T) (e : ∀ q, t + 11 ≤ q → q < t + 29 → Ea M N q) (e3 : mI N (u + 3) = mI M (u + 3)) (e4 : mI N (u + 4) = mI M (u + 4)) (eT : ∀ q, u + 42 ≤ q → q < T → Ea M N q) (hT : T ≤ T') : IMr Λ N t u T' := by
  intro k hk
  obtain ⟨h1, h2, h3⟩ := h k hk
  rw [e3, e4, (e (t + 11 + 9 * k) (by omega) (by omega)).1]
  exact ⟨h1, h2, fun z => (h3 z).keep (fun q a b => e q (by omega) (by omega)) eT hT⟩
theorem WR.keep {Λ : Lam} {M N : Mem} {lo T T' w : Nat} (h : WR Λ M lo T w) (e : ∀ q, w ≤ q → q < w + 12 → Ea M N q) (eT : ∀ q, lo ≤ q → q < T → Ea M N q) (hT : T ≤ T') : WR Λ N lo T' w := by
  obtain ⟨h1, h2, h3⟩ := h
  have e0 := e w (by omega) (by omega)
  refine ⟨fun k k1 k2 => by rw [(e (w + 2) (by omega) (by omega)).1]; exact h1 k k1 k2, by rw [e0.1]; exact h2, fun z => ?_⟩
  rw [e0.1] at z ⊢
  rw [e0.2.2.1]
  obtain ⟨a1, a2⟩ := h3 z
  refine ⟨fun a ha => ?_, a2.keep e⟩
  obtain ⟨b1, b2, b3⟩ := (a1.keep eT) a ha
  exact ⟨b1, by omega, b3⟩
theorem KW.keepE {u : Nat} {M N : Mem} (h : KW u M) (e15 : mJ N (u + 15) = mJ M (u + 15)) (e16 : mJ N (u + 16) = mJ M (u + 16)) (e17 : mJ N (u + 17) = mJ M (u + 17)) (e39 : mJ N (u + 39) = mJ M (u + 39)) : KW u N := by
  unfold KW; rw [e15, e16, e17, e39]; exact h
theorem TP.keepE {t u : Nat} {M N : Mem} (h : TP t u M) (e1 : mI N (t + 171) 2 = mI M (t + 171) 2) (e2 : mI N (t + 172) = mI M (t + 172)) (e3 : mI N u 13 = mI M u 13) (e4 : mI N (u + 9) = mI M (u + 9)) : TP t u N := by
  unfold TP; rw [e1, e2, e3, e4]; exact h
/-- where the invariant looks -/
def Used (t u T q : Nat) : Prop := (t + 1 ≤ q ∧ q < t + 96) ∨ q = t + 172 ∨ q = t + 174 ∨ q = t + 175 ∨ (t + 179 ≤ q ∧ q < t + 203) ∨ q = t + 275 ∨ q = t + 276 ∨ (u + 1 ≤ q ∧ q < u + 7) ∨ q = u + 9 ∨ (u + 15 ≤ q ∧ q < u + 18) ∨ q = u + 39 ∨ q = u + 41 ∨ (u + 42 ≤ q ∧ q < T)
/-- nothing of it has changed -/
theorem InvL.same {Λ : Lam} {t u T T' : Nat} {M N : Mem} (h : InvL Λ t u T M) (e : ∀ q, Used t u T q → Ea M N q) (et : ∀ k, k = 16 ∨ k = 17 ∨ k = 18 → mI N t k = mI M t k) (er : ∀ k, k = 2 ∨ k = 3 → mI N (t + 171) k = mI M (t + 171) k) (eu : ∀ k, k ∈ ([1, 8, 11, 13, 18, 20, 64, 67] : List Nat) → mI N u k = mI M u k) (hT : T ≤ T') : InvL Λ t u T' N := by
  obtain ⟨h1, h2, h3, h4, h5, h6, h7, h8, h9, h10⟩ := h
  have eT : ∀ q, u + 42 ≤ q → q < T → Ea M N q := fun q a b => e q (by unfold Used; omega)
  have g : ∀ q, Used t u T q → mI N q = mI M q := fun q a => (e q a).1
  refine ⟨h1, by omega, ?_, ?_, ?_, ?_, ?_, ?_, ?_, ?_⟩
  · rw [g (u + 2) (by unfold Used; omega)]
    exact h3.keep (fun q a b => e q (by unfold Used; omega)) eT hT
  · exact h4.keep (fun q a b => e q (by unfold Used; omega)) (g _ (by unfold Used; omega)) (g _ (by unfold Used; omega)) eT hT
  · exact h5.keep (fun q a b => e q (by unfold Used; omega)) (g _ (by unfold Used; omega)) (g _ (by unfold Used; omega)) (eu 8 (by decide))
  · exact h6.keepE (er 2 (Or.inl rfl)) (g _ (by unfold Used; omega)) (eu 13 (by decide)) (g _ (by unfold Used; omega))
  · obtain ⟨m1, m2, m3, m4, m5, m6⟩ := h7
    refine ⟨by rw [et 16 (by omega), eu 1 (by decide)]; exact m1, by rw [et 17 (by omega), eu 11 (by decide)]; exact m2, by rw [et 18 (by omega), eu 64 (by decide)]; exact m3, by rw [er 3 (Or.inr rfl), eu 18 (by decide)]; exact m4, fun j hj => by rw [g (t + 275) (by unfold Used; omega), g (u + 1) (by unfold Used; omega)]; exact m5 j hj, ?_⟩
    unfold DrR
    rw [eu 67 (by decide), g (t + 276) (by unfold Used; omega), g (u + 41) (by unfold Used; omega)]; exact m6
  · exact h8.keep (fun q a b => e q (by unfold Used; omega)) eT hT
  · exact h9.keep (fun q a b => e q (by unfold Used; omega)) eT hT
  · obtain ⟨k1, k2, k3, k4⟩ := h10
    exact ⟨k1.keepE (e _ (by unfold Used; omega)).2.1 (e _ (by unfold Used; omega)).2.1 (e _ (by unfold Used; omega)).2.1 (e _ (by unfold Used; omega)).2.1, by rw [(e (t + 174) (by unfold Used; omega)).2.2.2]; exact k2, by rw [(e (t + 175) (by unfold Used; omega)).2.2.2]; exact k3, by rw [eu 20 (by decide)]; exact k4⟩
theorem InvL.u0 {Λ : Lam} {t u T : Nat} {M : Mem} (h : InvL Λ t u T M) (v : Int32) : InvL Λ t u T (sI M u 0 v) := by
  have hu := h.1
  refine h.same (fun q hq => Ea_sI (by unfold Used at hq; have := h.2.1; omega)) (fun k hk => by rw [mI_sI, if_neg (by omega)]) (fun k hk => by rw [mI_sI, if_neg (by omega)]) (fun k hk => ?_) (Nat.le_refl _)
  rw [mI_sI, if_neg (fun z => by rw [z.2] at hk; exact absurd hk (by decide))]
