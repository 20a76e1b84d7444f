/-! ===== the orders of a text, one behind another, on both sides ===== -/
def clsT (t c : Nat) (p2 r1 r2 : Int32) : Int32 → Mem → (Int32 → Mem → Option (Int32 × Mem)) → Option (Int32 × Mem) := fun v3 M4 rec5 => if r2 ≤ v3 then some (1, M4) else clO t c p2 r1 M4 (fun M17 => nm (v3 + 1) fun v20 => rec5 v20 M17) (fun M => some (0, M))
theorem runClause_eq {t c : Nat} {p2 : Int32} {M : Mem} : FX11_runClause t c p2 M = (FX9_at c p2 0 M).bind fun r1 => (FX9_at c p2 1 M).bind fun r2 => wl2 (clsT t c p2 r1 r2) fuel 0 M := rfl
def refT {τ : Type} (u : Nat) (k : Int32) (K E : Mem → Option τ) : Int32 → Mem → (Int32 → Mem → Option τ) → Option τ := fun v29 M30 rec31 => gd (inb ((8 * k) + 7) 96) <| if (mI M30 (u + 40) (ix ((8 * k) + 7))) ≤ v29 then K M30 else bdM (FX12_runOnce u (8 * k) M30) fun r37 M36 => if 0 ≤ r37 then nm (v29 + 1) fun v38 => rec31 v38 M36 else E M36
theorem refT_s {τ : Type} {u n : Nat} {k v : Int32} {K E : Mem → Option τ} {M : Mem} : wl2 (refT u k K E) (n + 1) v M = gd (inb ((8 * k) + 7) 96) (if (mI M (u + 40) (ix ((8 * k) + 7))) ≤ v then K M else bdM (FX12_runOnce u (8 * k) M) fun r37 M36 => if 0 ≤ r37 then wl2 (refT u k K E) n (v + 1) M36 else E M36) := rfl
theorem times_run {Λ : Lam} {t u T n len lr i : Nat} {I : Nat → CI} (hK : KOk n I) (hi : i < n) : ∀ (m j d : Nat) (A B : Mem) (fc fr : Nat), j + m = (I i).2.1 → m < fc → m < fr → OT Λ t u T n len lr I A B d → ∃ A' B', OFr t u A A' B B' ∧ ((∃ d', d' ≤ d + m ∧ OT Λ t u T n len lr I A' B' d' ∧ wl2 (clsT t (t + 173) (Int32.ofNat i) (Int32.ofNat (I i).1) (Int32.ofNat (I i).2.1)) fc (Int32.ofNat j) A = some (1, A') ∧ ∀ (τ : Type) (K E : Mem → Option τ), wl2 (refT u (Int32.ofNat i) K E) fr (Int32.ofNat j) B = K B') ∨ (JT Λ t u T A' B' ∧ wl2 (clsT t (t + 173) (Int32.ofNat i) (Int32.ofNat (I i).1) (Int32.ofNat (I i).2.1)) fc (Int32.ofNat j) A = some (0, A') ∧ ∀ (τ : Type) (K E : Mem → Option τ), wl2 (refT u (Int32.ofNat i) K E) fr (Int32.ofNat j) B = E B')) := by
  obtain ⟨hn, hki⟩ := id hK
  obtain ⟨hk, ht, _⟩ := hki i hi
  have e8 : (8 : Int32) * Int32.ofNat i = Int32.ofNat (8 * i) := nn_mul 8 i
  have e7 : Int32.ofNat (8 * i) + 7 = Int32.ofNat (8 * i + 7) := nn_add _ 7
  intro m
  induction m with
  | zero =>
    intro j d A B fc fr hj hc hr h
    obtain ⟨_, _, _, _, c0, c7, _⟩ := h.2.2.2.1 i hi
    refine ⟨A, B, OFr.rf, Or.inl ⟨d, by omega, h, ?_, fun τ K E => ?_⟩⟩
    · cases fc with
      | zero => omega
      | succ fc =>
        show clsT _ _ _ _ _ _ _ _ = _
        unfold clsT
        rw [if_pos (by rw [show j = (I i).2.1 by omega]; exact Int32.le_refl _)]
    · cases fr with
      | zero => omega
      | succ fr =>
        show refT _ _ _ _ _ _ _ = _
        unfold refT
        rw [e8, e7, gp (inb_nn (by omega) (by decide)), nn_ix (by omega), c7, if_pos (by rw [show j = (I i).2.1 by omega]; exact Int32.le_refl _)]
  | succ m ih =>
    intro j d A B fc fr hj hc hr h
    obtain ⟨_, _, _, _, c0, c7, _⟩ := h.2.2.2.1 i hi
    obtain ⟨A1, B1, hF, ho⟩ := once h hK hi
    cases fc with
    | zero => omega
    | succ fc =>
    cases fr with
    | zero => omega
    | succ fr =>
    have sc : ∀ (fc' : Nat), wl2 (clsT t (t + 173) (Int32.ofNat i) (Int32.ofNat (I i).1) (Int32.ofNat (I i).2.1)) (fc' + 1) (Int32.ofNat j) A = clO t (t + 173) (Int32.ofNat i) (Int32.ofNat (I i).1) A (fun M17 => wl2 (clsT t (t + 173) (Int32.ofNat i) (Int32.ofNat (I i).1) (Int32.ofNat (I i).2.1)) fc' (Int32.ofNat (j + 1)) M17) (fun M => some (0, M)) := fun fc' => by
      show clsT _ _ _ _ _ _ _ _ = _
      unfold clsT
      rw [if_neg (nle (show j < (I i).2.1 by omega) (by omega)), s1]
      rfl
    have sr : ∀ (τ : Type) (K E : Mem → Option τ), wl2 (refT u (Int32.ofNat i) K E) (fr + 1) (Int32.ofNat j) B = bdM (FX12_runOnce u (Int32.ofNat (8 * i)) B) fun r37 M36 => if 0 ≤ r37 then wl2 (refT u (Int32.ofNat i) K E) fr (Int32.ofNat (j + 1)) M36 else E M36 := fun τ K E => by
      rw [refT_s, e8, e7, gp (inb_nn (by omega) (by decide)), nn_ix (by omega), c7, if_neg (nle (show j < (I i).2.1 by omega) (by omega)), s1]
    rcases ho with ⟨d1, hd1, h1, x1, x2⟩ | ⟨h1, x1, x2⟩
    · obtain ⟨A2, B2, hF2, hh⟩ := ih (j + 1) d1 A1 B1 fc fr (by omega) (by omega) (by omega) h1
      refine ⟨A2, B2, hF.tr hF2, ?_⟩
      rcases hh with ⟨d', q1, q2, q3, q4⟩ | ⟨q2, q3, q4⟩
      · refine Or.inl ⟨d', by omega, q2, ?_, fun τ K E => ?_⟩
        · rw [sc, x2]; exact q3
        · rw [sr, bo x1, if_pos (by decide)]; exact q4 τ K E
      · refine Or.inr ⟨q2, ?_, fun τ K E => ?_⟩
        · rw [sc, x2]; exact q3
        · rw [sr, bo x1, if_pos (by decide)]; exact q4 τ K E
    · refine ⟨A1, B1, hF, Or.inr ⟨h1, ?_, fun τ K E => ?_⟩⟩
      · rw [sc, x2]
      · rw [sr, bo x1, if_neg (by decide)]
def clsN {τ : Type} (t : Nat) (G : Mem → Option τ) (Z : Int32 → Mem → Option τ) : Int32 → Mem → (Int32 → Mem → Option τ) → Option τ := fun v16 M17 rec18 => if (mI M17 ((t + 171) + 2) 3) ≤ v16 then G M17 else bdM (FX11_runClause t ((t + 171) + 2) v16 M17) fun r29 M28 => if ¬ r29 = 0 then nm (v16 + 1) fun v30 => rec18 v30 M28 else Z v16 M28
def refN {τ : Type} (u : Nat) (G : Mem → Option τ) (Z : Int32 → Mem → Option τ) : Int32 → Mem → (Int32 → Mem → Option τ) → Option τ := fun v23 M24 rec25 => if (mI M24 u 21) ≤ v23 then G M24 else wl2 (refT u v23 (fun M30 => nm (v23 + 1) fun v35 => rec25 v35 M30) (fun M36 => Z v23 M36)) fuel 0 M24
theorem clauses_run {Λ : Lam} {t u T n len lr : Nat} {I : Nat → CI} (hK : KOk n I) : ∀ (m k d : Nat) (A B : Mem) (fc fr : Nat), k + m = n → m < fc → m < fr → OT Λ t u T n len lr I A B d → d ≤ 20 * k → mI A (t + 173) 3 = Int32.ofNat n → mI B u 21 = Int32.ofNat n → ∃ A' B', OFr t u A A' B B' ∧ ((∃ d', d' ≤ 240 ∧ OT Λ t u T n len lr I A' B' d' ∧ (∀ (τ : Type) (G : Mem → Option τ) (Z : Int32 → Mem → Option τ), wl2 (clsN t G Z) fc (Int32.ofNat k) A = G A') ∧ ∀ (τ : Type) (G : Mem → Option τ) (Z : Int32 → Mem → Option τ), wl2 (refN u G Z) fr (Int32.ofNat k) B = G B') ∨ (∃ c, c < 12 ∧ JT Λ t u T A' B' ∧ (∀ (τ : Type) (G : Mem → Option τ) (Z : Int32 → Mem → Option τ), wl2 (clsN t G Z) fc (Int32.ofNat k) A = Z (Int32.ofNat c) A') ∧ ∀ (τ : Type) (G : Mem → Option τ) (Z : Int32 → Mem → Option τ), wl2 (refN u G Z) fr (Int32.ofNat k) B = Z (Int32.ofNat c) B')) := by
  obtain ⟨hn, hki⟩ := id hK
  intro m
  induction m with
  | zero =>
    intro k d A B fc fr hk hc hr h hd h3 h21
    refine ⟨A, B, OFr.rf, Or.inl ⟨d, by omega, h, fun τ G Z => ?_, fun τ G Z => ?_⟩⟩
    · cases fc with
      | zero => omega
      | succ fc =>
        show clsN _ _ _ _ _ _ = _
        unfold clsN
        rw [if_pos (show mI A (t + 171 + 2) 3 ≤ Int32.ofNat k by rw [show mI A (t + 171 + 2) 3 = Int32.ofNat n from h3, show k = n by omega]; exact Int32.le_refl _)]
    · cases fr with
      | zero => omega
      | succ fr =>
        show refN _ _ _ _ _ _ = _
        unfold refN
        rw [if_pos (by rw [h21, show k = n by omega]; exact Int32.le_refl _)]
  | succ m ih =>
    intro k d A B fc fr hk hc hr h hd h3 h21
    have hkn : k < n := by omega
    obtain ⟨hkk, ht, _⟩ := hki k hkn
    cases fc with
    | zero => omega
    | succ fc =>
    cases fr with
    | zero => omega
    | succ fr =>
    have hfu : fuel = 1000000 := rfl
    obtain ⟨A1, B1, hF, ho⟩ := times_run hK hkn (I k).2.1 0 d A B fuel fuel (by omega) (by omega) (by omega) h
    have rc : ∀ v A', wl2 (clsT t (t + 173) (Int32.ofNat k) (Int32.ofNat (I k).1) (Int32.ofNat (I k).2.1)) fuel (Int32.ofNat 0) A = some (v, A') → FX11_runClause t (t + 171 + 2) (Int32.ofNat k) A = some (v, A') := fun v A' e => by
      obtain ⟨a1, a2, a3, a4, c0, c1, _⟩ := h.2.1.2.2.2.2.2.2.1 k hkn
      have z5 := h.2.1.2.2.2.2.1
      have z6 := h.2.1.2.2.2.2.2.1
      show FX11_runClause t (t + 173) (Int32.ofNat k) A = _
      rw [runClause_eq, ob (show FX9_at (t + 173) (Int32.ofNat k) 0 A = _ from at_so (col := 0) (by omega) z6), ob (show FX9_at (t + 173) (Int32.ofNat k) 1 A = _ from at_so (col := 1) (by omega) z6)]
      rw [show mI A (t + 173 + 2) (6 * k + 0) = Int32.ofNat (I k).1 from c0, c1]
      exact e
    have sc : ∀ (τ : Type) (G : Mem → Option τ) (Z : Int32 → Mem → Option τ), wl2 (clsN t G Z) (fc + 1) (Int32.ofNat k) A = bdM (FX11_runClause t (t + 171 + 2) (Int32.ofNat k) A) fun r29 M28 => if ¬ r29 = 0 then wl2 (clsN t G Z) fc (Int32.ofNat (k + 1)) M28 else Z (Int32.ofNat k) M28 := fun τ G Z => by
      show clsN _ _ _ _ _ _ = _
      conv => lhs; unfold clsN
      rw [if_neg (show ¬ mI A (t + 171 + 2) 3 ≤ Int32.ofNat k by rw [show mI A (t + 171 + 2) 3 = Int32.ofNat n from h3]; exact nle hkn (by omega)), s1]
      rfl
    have sr : ∀ (τ : Type) (G : Mem → Option τ) (Z : Int32 → Mem → Option τ), wl2 (refN u G Z) (fr + 1) (Int32.ofNat k) B = wl2 (refT u (Int32.ofNat k) (fun M30 => wl2 (refN u G Z) fr (Int32.ofNat (k + 1)) M30) (fun M36 => Z (Int32.ofNat k) M36)) fuel (Int32.ofNat 0) B := fun τ G Z => by
      show refN _ _ _ _ _ _ = _
      conv => lhs; unfold refN
      rw [if_neg (by rw [h21]; exact nle hkn (by omega)), s1]
      rfl
    have hu := h.1.1
    rcases ho with ⟨d1, hd1, h1, x1, x2⟩ | ⟨h1, x1, x2⟩
    · obtain ⟨A2, B2, hF2, hh⟩ := ih (k + 1) d1 A1 B1 fc fr (by omega) (by omega) (by omega) h1 (by omega) (by rw [(hF.1 (t + 173) (by unfold OC CAc; omega)).1]; exact h3) (by rw [hF.2.2.1 21 (by decide)]; exact h21)
      refine ⟨A2, B2, hF.tr hF2, ?_⟩
      rcases hh with ⟨d', q1, q2, q3, q4⟩ | ⟨c, q1, q2, q3, q4⟩
      · refine Or.inl ⟨d', q1, q2, fun τ G Z => ?_, fun τ G Z => ?_⟩
        · rw [sc, bo (rc 1 A1 x1), if_pos (by decide)]; exact q3 τ G Z
        · rw [sr, x2]; exact q4 τ G Z
      · refine Or.inr ⟨c, q1, q2, fun τ G Z => ?_, fun τ G Z => ?_⟩
        · rw [sc, bo (rc 1 A1 x1), if_pos (by decide)]; exact q3 τ G Z
        · rw [sr, x2]; exact q4 τ G Z
    · refine ⟨A1, B1, hF, Or.inr ⟨k, by omega, h1, fun τ G Z => ?_, fun τ G Z => ?_⟩⟩
      · rw [sc, bo (rc 0 A1 x1), if_neg (by decide)]
      · rw [sr, x2]
