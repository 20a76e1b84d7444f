/-! ===== feed and end ===== -/
def AP (h a f L L' : Nat) (M N : Mem) (b : Nat → Int32) : Prop := Eo (fun q => q = h ∨ q = a) M N ∧ mI N h f = Int32.ofNat L' ∧ (∀ k, k ≠ f → mI N h k = mI M h k) ∧ mJ N h = mJ M h ∧ mR N h = mR M h ∧ (∀ k, L ≤ k → k < L' → mI N a k = b k) ∧ ∀ k, (k < L ∨ L' ≤ k) → mI N a k = mI M a k
theorem AP.tr {h a f L L' L'' : Nat} {M N K : Mem} {b : Nat → Int32} (h1 : AP h a f L L' M N b) (h2 : AP h a f L' L'' N K b) (e1 : L ≤ L') (e2 : L' ≤ L'') : AP h a f L L'' M K b := by
  refine ⟨h1.1.tr h2.1, h2.2.1, fun k hk => (h2.2.2.1 k hk).trans (h1.2.2.1 k hk), h2.2.2.2.1.trans h1.2.2.2.1, h2.2.2.2.2.1.trans h1.2.2.2.2.1, fun k hk hk2 => ?_, fun k hk => ?_⟩
  · by_cases hq : k < L'
    · rw [h2.2.2.2.2.2.2 k (Or.inl hq)]; exact h1.2.2.2.2.2.1 k hk hq
    · exact h2.2.2.2.2.2.1 k (by omega) hk2
  · rw [h2.2.2.2.2.2.2 k (by omega)]; exact h1.2.2.2.2.2.2 k (by omega)
theorem append_ap {h L : Nat} {p : Int32} {M : Mem} (b : Nat → Int32) (hb : ∀ i, i < 4 → b (L + i) = by4 p i) (hL : L + 4 ≤ 400) (h2 : mI M h 2 = Int32.ofNat L) : So (FX5_append h p M) (fun N => AP h (h + 1) 2 L (L + 4) M N b) := by
  refine (append_so hL h2).mono ?_
  rintro N ⟨a1, a2, a3, a4, a5, a6, a7⟩
  refine ⟨a1, a2, a3, a4, a5, fun k hk hk2 => ?_, a7⟩
  obtain ⟨i, rfl⟩ : ∃ i, k = L + i := ⟨k - L, by omega⟩
  rw [a6 i (by omega), hb i (by omega)]
theorem four_ap {u L : Nat} {p : Int32} {M : Mem} (b : Nat → Int32) (hb : ∀ i, i < 4 → b (L + i) = by4 p i) (hL : L + 4 ≤ 400) (h2 : mI M u 13 = Int32.ofNat L) : So (FX12_four u p M) (fun N => AP u (u + 9) 13 L (L + 4) M N b) := by
  refine (four_so hL h2).mono ?_
  rintro N ⟨a1, a2, a3, a4, a5, a6, a7⟩
  refine ⟨a1, a2, a3, a4, a5, fun k hk hk2 => ?_, a7⟩
  obtain ⟨i, rfl⟩ : ∃ i, k = L + i := ⟨k - L, by omega⟩
  rw [a6 i (by omega), hb i (by omega)]
def fdB (L : Nat) (p1 p2 p3 p4 p5 : Int32) (k : Nat) : Int32 := by4 (([p1, p2, p3, p4, p5] : List Int32).getD ((k - L) / 4) 0) ((k - L) % 4)
theorem fdB_at (L : Nat) (p1 p2 p3 p4 p5 : Int32) (j i : Nat) (hi : i < 4) : fdB L p1 p2 p3 p4 p5 (L + 4 * j + i) = by4 (([p1, p2, p3, p4, p5] : List Int32).getD j 0) i := by
  unfold fdB
  rw [show (L + 4 * j + i - L) / 4 = j by omega, show (L + 4 * j + i - L) % 4 = i by omega]
theorem fdB_byte (L : Nat) (p1 p2 p3 p4 p5 : Int32) (k : Nat) : ∃ n, n < 256 ∧ fdB L p1 p2 p3 p4 p5 k = Int32.ofNat n := by4_byte _ _
theorem feed_c {t L : Nat} {p1 p2 p3 p4 p5 : Int32} {M : Mem} (hL : L + 20 ≤ 400) (h2 : mI M (t + 171) 2 = Int32.ofNat L) : So (FX11_feed t p1 p2 p3 p4 p5 M) (fun r => r.1 = Int32.ofNat (L + 20) ∧ AP (t + 171) (t + 171 + 1) 2 L (L + 20) M r.2 (fdB L p1 p2 p3 p4 p5)) := by
  unfold FX11_feed
  rw [h2]
  refine So.ite (fun _ => ?_) (fun hc => absurd ((nn_le (a := L + 20) (b := 400) (by omega) (by decide)).mpr hL) (by rw [← nn_add]; exact hc))
  refine So.bind (append_ap (fdB L p1 p2 p3 p4 p5) (fdB_at L p1 p2 p3 p4 p5 0) (by omega) h2) (fun M1 a1 => ?_)
  refine So.bind (append_ap (fdB L p1 p2 p3 p4 p5) (fdB_at L p1 p2 p3 p4 p5 1) (by omega) a1.2.1) (fun M2 a2 => ?_)
  refine So.bind (append_ap (fdB L p1 p2 p3 p4 p5) (fdB_at L p1 p2 p3 p4 p5 2) (by omega) a2.2.1) (fun M3 a3 => ?_)
  refine So.bind (append_ap (fdB L p1 p2 p3 p4 p5) (fdB_at L p1 p2 p3 p4 p5 3) (by omega) a3.2.1) (fun M4 a4 => ?_)
  refine So.bind (append_ap (fdB L p1 p2 p3 p4 p5) (fdB_at L p1 p2 p3 p4 p5 4) (by omega) a4.2.1) (fun M5 a5 => ?_)
  have a := (((a1.tr a2 (by omega) (by omega)).tr a3 (by omega) (by omega)).tr a4 (by omega) (by omega)).tr a5 (by omega) (by omega)
  exact So.ok ⟨a.2.1, a⟩
theorem feed_r {u L : Nat} {p1 p2 p3 p4 p5 : Int32} {M : Mem} (hL : L + 20 ≤ 400) (h2 : mI M u 13 = Int32.ofNat L) : So (FX12_feed u p1 p2 p3 p4 p5 M) (fun r => r.1 = Int32.ofNat (L + 20) ∧ AP u (u + 9) 13 L (L + 20) (sI M u 0 0) r.2 (fdB L p1 p2 p3 p4 p5)) := by
  unfold FX12_feed
  refine So_nm ?_
  have h3 : mI (sI M u 0 0) u 13 = Int32.ofNat L := by rw [mI_sI, if_neg (by omega), h2]
  rw [h3]
  refine So.ite (fun _ => ?_) (fun hc => absurd ((nn_le (a := L + 20) (b := 400) (by omega) (by decide)).mpr hL) (by rw [← nn_add]; exact hc))
  refine So.bind (four_ap (fdB L p1 p2 p3 p4 p5) (fdB_at L p1 p2 p3 p4 p5 0) (by omega) h3) (fun M1 a1 => ?_)
  refine So.bind (four_ap (fdB L p1 p2 p3 p4 p5) (fdB_at L p1 p2 p3 p4 p5 1) (by omega) a1.2.1) (fun M2 a2 => ?_)
  refine So.bind (four_ap (fdB L p1 p2 p3 p4 p5) (fdB_at L p1 p2 p3 p4 p5 2) (by omega) a2.2.1) (fun M3 a3 => ?_)
  refine So.bind (four_ap (fdB L p1 p2 p3 p4 p5) (fdB_at L p1 p2 p3 p4 p5 3) (by omega) a3.2.1) (fun M4 a4 => ?_)
  refine So.bind (four_ap (fdB L p1 p2 p3 p4 p5) (fdB_at L p1 p2 p3 p4 p5 4) (by omega) a4.2.1) (fun M5 a5 => ?_)
  have a := (((a1.tr a2 (by omega) (by omega)).tr a3 (by omega) (by omega)).tr a4 (by omega) (by omega)).tr a5 (by omega) (by omega)
  exact So.ok ⟨a.2.1, a⟩
def TP (t u : Nat) (M : Mem) : Prop := ∃ L : Nat, L ≤ 400 ∧ mI M (t + 171) 2 = Int32.ofNat L ∧ mI M u 13 = Int32.ofNat L ∧ ∀ k, k < L → mI M (u + 9) k = mI M (t + 172) k ∧ ∃ n, n < 256 ∧ mI M (t + 172) k = Int32.ofNat n
/-- what feed changes -/
def FeedE (t u : Nat) (M N : Mem) : Prop := Eo (fun q => q = t + 171 ∨ q = t + 172 ∨ q = u ∨ q = u + 9) M N ∧ (∀ k, k ≠ 2 → mI N (t + 171) k = mI M (t + 171) k) ∧ mJ N (t + 171) = mJ M (t + 171) ∧ mR N (t + 171) = mR M (t + 171) ∧ (∀ k, k ≠ 13 → k ≠ 0 → mI N u k = mI M u k) ∧ mJ N u = mJ M u ∧ mR N u = mR M u
theorem feed_all {t u : Nat} {p1 p2 p3 p4 p5 : Int32} {M : Mem} (hu : u = t + 277) (h : TP t u M) : ∃ v M1 M2, FX11_feed t p1 p2 p3 p4 p5 M = some (v, M1) ∧ FX12_feed u p1 p2 p3 p4 p5 M1 = some (v, M2) ∧ TP t u M2 ∧ FeedE t u M M2 := by
  obtain ⟨L, hL, h1, h2, h3⟩ := h
  by_cases hq : L + 20 ≤ 400
  · obtain ⟨⟨v, M1⟩, e1, f1, f2⟩ := feed_c (p1 := p1) (p2 := p2) (p3 := p3) (p4 := p4) (p5 := p5) hq h1
    have g2 : mI M1 u 13 = Int32.ofNat L := by rw [(f2.1 u (by omega)).1]; exact h2
    obtain ⟨⟨w, M2⟩, e2, k1, k2⟩ := feed_r (p1 := p1) (p2 := p2) (p3 := p3) (p4 := p4) (p5 := p5) hq g2
    cases f1; cases k1
    refine ⟨_, M1, M2, e1, e2, ⟨L + 20, hq, ?_, k2.2.1, fun k hk => ?_⟩, ?_⟩
    · rw [(k2.1 _ (by omega)).1, mI_sI, if_neg (by omega)]; exact f2.2.1
    · have c1 : mI M2 (t + 172) k = mI M1 (t + 172) k := by rw [(k2.1 _ (by omega)).1, mI_sI, if_neg (by omega)]
      by_cases hk2 : k < L
      · have c2 : mI M1 (t + 172) k = mI M (t + 172) k := f2.2.2.2.2.2.2 k (Or.inl hk2)
        have c3 : mI M2 (u + 9) k = mI M (u + 9) k := by
          rw [k2.2.2.2.2.2.2 k (Or.inl hk2), mI_sI, if_neg (by omega), (f2.1 _ (by omega)).1]
        rw [c1, c2, c3]; exact h3 k hk2
      · have c2 : mI M1 (t + 172) k = fdB L p1 p2 p3 p4 p5 k := f2.2.2.2.2.2.1 k (by omega) hk
        have c3 : mI M2 (u + 9) k = fdB L p1 p2 p3 p4 p5 k := k2.2.2.2.2.2.1 k (by omega) hk
        rw [c1, c2, c3]; exact ⟨rfl, fdB_byte ..⟩
    · refine ⟨?_, fun k hk => ?_, ?_, ?_, fun k hk hk0 => ?_, ?_, ?_⟩
      · exact ((f2.1.up (fun a ha => by omega)).tr (Eo_sI (by omega))).tr (k2.1.up (fun a ha => by omega))
      · rw [(k2.1 _ (by omega)).1, mI_sI, if_neg (by omega)]; exact f2.2.2.1 k hk
      · rw [(k2.1 _ (by omega)).2.1]; exact f2.2.2.2.1
      · rw [(k2.1 _ (by omega)).2.2.1]; exact f2.2.2.2.2.1
      · rw [k2.2.2.1 k hk, mI_sI, if_neg (by omega), (f2.1 _ (by omega)).1]
      · rw [k2.2.2.2.1]; exact (f2.1 _ (by omega)).2.1
      · rw [k2.2.2.2.2.1]; exact (f2.1 _ (by omega)).2.2.1
  · have n1 : ¬ (Int32.ofNat L + 20 ≤ 400) := by
      rw [show (20 : Int32) = Int32.ofNat 20 from rfl, nn_add, show (400 : Int32) = Int32.ofNat 400 from rfl, nn_le (by omega) (by omega)]; exact hq
    refine ⟨-1, M, sI M u 0 0, ?_, ?_, ⟨L, hL, ?_, ?_, fun k hk => ?_⟩, ?_⟩
    · unfold FX11_feed; rw [h1, if_neg n1]
    · have e3 : mI (sI M u 0 0) u 13 = Int32.ofNat L := by rw [mI_sI, if_neg (by omega), h2]
      unfold FX12_feed nm; simp only []; rw [e3, if_neg n1]
    · rw [mI_sI, if_neg (by omega), h1]
    · rw [mI_sI, if_neg (by omega), h2]
    · rw [mI_sI, if_neg (by omega), mI_sI, if_neg (by omega)]; exact h3 k hk
    · refine ⟨Eo_sI (by omega), fun k hk => ?_, rfl, rfl, fun k hk hk0 => ?_, rfl, rfl⟩
      · rw [mI_sI, if_neg (by omega)]
      · rw [mI_sI, if_neg (by omega)]
theorem end_all {t u : Nat} {p1 : Int32} {M : Mem} (hu : u = t + 277) (h : TP t u M) : ∃ v M1 M2, FX11_end t p1 M = some (v, M1) ∧ FX12_end u p1 M1 = some (v, M2) ∧ TP t u M2 ∧ FeedE t u M M2 := by
  obtain ⟨L, hL, h1, h2, h3⟩ := h
  by_cases hc : ¬ p1 < 0 ∧ p1 ≤ Int32.ofNat L
  · obtain ⟨n, hn, rfl⟩ := nn_exi (i := p1) (by have := hc.1; rw [Int32.lt_iff_toInt_lt, show (0 : Int32).toInt = 0 from rfl] at this; omega)
    have hnL : n ≤ L := (nn_le hn (by omega)).mp hc.2
    refine ⟨Int32.ofNat n, sI M (t + 171) 2 (Int32.ofNat n), sI (sI (sI M (t + 171) 2 (Int32.ofNat n)) u 0 0) u 13 (Int32.ofNat n), ?_, ?_, ⟨n, by omega, ?_, ?_, fun k hk => ?_⟩, ?_⟩
    · unfold FX11_end jn0 nm; simp only []; rw [if_neg hc.1, h1, if_pos hc.2]
    · have e3 : mI (sI (sI M (t + 171) 2 (Int32.ofNat n)) u 0 0) u 13 = Int32.ofNat L := by rw [mI_sI, if_neg (by omega), mI_sI, if_neg (by omega), h2]
      unfold FX12_end jn0 nm; simp only []; rw [if_neg hc.1, e3, if_pos hc.2]
    · rw [mI_sI, if_neg (by omega), mI_sI, if_neg (by omega), mI_sI, if_pos ⟨rfl, rfl⟩]
    · rw [mI_sI, if_pos ⟨rfl, rfl⟩]
    · rw [mI_sI, if_neg (by omega), mI_sI, if_neg (by omega), mI_sI, if_neg (by omega), mI_sI, if_neg (by omega), mI_sI, if_neg (by omega), mI_sI, if_neg (by omega)]; exact h3 k (by omega)
    · refine ⟨((Eo_sI (by omega)).tr (Eo_sI (by omega))).tr (Eo_sI (by omega)), fun k hk => ?_, rfl, rfl, fun k hk hk0 => ?_, rfl, rfl⟩
      · rw [mI_sI, if_neg (by omega), mI_sI, if_neg (by omega), mI_sI, if_neg (by omega)]
      · rw [mI_sI, if_neg (by omega), mI_sI, if_neg (by omega), mI_sI, if_neg (by omega)]
  · refine ⟨-1, M, sI M u 0 0, ?_, ?_, ⟨L, hL, ?_, ?_, fun k hk => ?_⟩, ?_⟩
    · unfold FX11_end jn0 nm; simp only []; rw [h1]
      by_cases c0 : p1 < 0
      · rw [if_pos c0]
      · rw [if_neg c0, if_neg (fun q => hc ⟨c0, q⟩)]
    · have e3 : mI (sI M u 0 0) u 13 = Int32.ofNat L := by rw [mI_sI, if_neg (by omega), h2]
      unfold FX12_end jn0 nm; simp only []; rw [e3]
      by_cases c0 : p1 < 0
      · rw [if_pos c0]
      · rw [if_neg c0, if_neg (fun q => hc ⟨c0, q⟩)]
    · rw [mI_sI, if_neg (by omega), h1]
    · rw [mI_sI, if_neg (by omega), h2]
    · rw [mI_sI, if_neg (by omega), mI_sI, if_neg (by omega)]; exact h3 k hk
    · refine ⟨Eo_sI (by omega), fun k hk => ?_, rfl, rfl, fun k hk hk0 => ?_, rfl, rfl⟩
      · rw [mI_sI, if_neg (by omega)]
      · rw [mI_sI, if_neg (by omega)]
