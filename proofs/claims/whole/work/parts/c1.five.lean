/-! ===== the reference counts five ===== -/
def vN (I : Nat → CI) (n : Nat) (deal mood : Int32) (c : Nat) : Nat := (vOf I n deal mood c).toInt.toNat
def cN (I : Nat → CI) (n : Nat) (deal mood : Int32) (pl kind it : Nat) : Nat := (cIt I n deal mood kind pl it).toInt.toNat
section VN
variable {I : Nat → CI} {n c pl kind it : Nat} {deal mood : Int32}
theorem vN_eq : vOf I n deal mood c = Int32.ofNat (vN I n deal mood c) := (nn_of (by have := (vOf_rg (I := I) (n := n) (c := c) (deal := deal) (mood := mood)).1; omega)).symm
theorem vN_rg : 1 ≤ vN I n deal mood c ∧ vN I n deal mood c ≤ 31 := by
  have := vOf_rg (I := I) (n := n) (c := c) (deal := deal) (mood := mood)
  unfold vN; omega
theorem cN_eq : cIt I n deal mood kind pl it = Int32.ofNat (cN I n deal mood pl kind it) := (nn_of (by have := (cIt_rg (I := I) (n := n) (kind := kind) (pl := pl) (it := it) (deal := deal) (mood := mood)).1; omega)).symm
theorem cN_le : cN I n deal mood pl kind it ≤ 99 := by
  have := cIt_rg (I := I) (n := n) (kind := kind) (pl := pl) (it := it) (deal := deal) (mood := mood)
  unfold cN; omega
end VN
def CnE (u : Nat) (M N : Mem) : Prop := Eo (fun q => q = u ∨ q = u + 18 ∨ (u + 20 ≤ q ∧ q < u + 32)) M N ∧ (∀ k, k ≠ 34 → k ≠ 38 → mI N u k = mI M u k) ∧ ∀ k, k ≠ 39 → k ≠ 40 → mJ N u k = mJ M u k
theorem CnE.rf {u : Nat} {M : Mem} : CnE u M M := ⟨Eo.rf, fun _ _ _ => rfl, fun _ _ _ => rfl⟩
theorem CnE.tr {u : Nat} {M N K : Mem} (h : CnE u M N) (h2 : CnE u N K) : CnE u M K := ⟨h.1.tr h2.1, fun k a b => (h2.2.1 k a b).trans (h.2.1 k a b), fun k a b => (h2.2.2 k a b).trans (h.2.2 k a b)⟩
theorem TlE.cn {u : Nat} {M N : Mem} (h : TlE u M N) : CnE u M N := ⟨h.1.up (fun q hq => by omega), h.2.1, h.2.2.1⟩
theorem CnE_s {u j k : Nat} {M : Mem} {v : Int32} (h : 20 ≤ j ∧ j < 32) : CnE u M (sI M (u + j) k v) := ⟨Eo_sI (by omega), fun i _ _ => by rw [mI_n1 (by omega)], fun _ _ _ => rfl⟩
theorem CnE.row {u : Nat} {M N : Mem} (h : CnE u M N) : mI N (u + 2) = mI M (u + 2) := (h.1 (u + 2) (by omega)).1
theorem RL.cn {u n : Nat} {I : Nat → CI} {deal mood : Int32} {B B' : Mem} (h : RL u n I deal mood B) (e : CnE u B B') : RL u n I deal mood B' := h.keep (fun k _ _ => by rw [e.row]) (e.2.1 20 (by decide) (by decide))
theorem CnE.of {u : Nat} {P : Nat → Prop} {M N : Mem} (h : Eo P M N) (hP : ∀ q, P q → u + 20 ≤ q ∧ q < u + 32) : CnE u M N := by
  have e : Ea M N u := h u (fun z => by have := hP u z; omega)
  exact ⟨h.up (fun q hq => Or.inr (Or.inr (hP q hq))), fun k _ _ => by rw [e.1], fun k _ _ => by rw [e.2.1]⟩
/-- the tables are laid -/
def LC (u : Nat) (V : Nat → Nat) (C : Nat → Nat → Nat) (M : Mem) : Prop :=
  (∀ c, c < 52 → mI M (u + 21) c = Int32.ofNat (V c)) ∧ (∀ k, 2 ≤ k → k < 6 → mI M (u + 22) k = Int32.ofNat (C 1 k) ∧ mI M (u + 24) k = Int32.ofNat (C 3 k)) ∧ (∀ r, r < 13 → mI M (u + 23) r = Int32.ofNat (C 2 r)) ∧ ∀ s, s < 4 → mI M (u + 25) s = Int32.ofNat (C 4 (2 * s)) ∧ mI M (u + 25) (4 + s) = Int32.ofNat (C 4 (2 * s + 1)) ∧ mI M (u + 26) s = Int32.ofNat (C 5 s)
theorem LC.keep {u : Nat} {V : Nat → Nat} {C : Nat → Nat → Nat} {M N : Mem} (h : LC u V C M) (e : ∀ j, 21 ≤ j → j < 27 → mI N (u + j) = mI M (u + j)) : LC u V C N := by
  unfold LC
  rw [e 21 (by omega) (by omega), e 22 (by omega) (by omega), e 23 (by omega) (by omega), e 24 (by omega) (by omega), e 25 (by omega) (by omega), e 26 (by omega) (by omega)]
  exact h
theorem cnt_r {u n kind : Nat} (pl it : Nat) {I : Nat → CI} {deal mood rank suit size crib wo : Int32} {B : Mem} (h : RL u n I deal mood B) (hk : kind ≤ 6) (h1 : rank = rkI kind it) (h2 : suit = suI kind it) (h3 : size = szI kind it) (h4 : crib = crI pl) (h5 : wo = stI kind it) : So (FX12_countsAs u (Int32.ofNat kind) rank suit size crib wo B) (fun r => TlE u B r.2 ∧ r.1 = Int32.ofNat (cN I n deal mood pl kind it)) := by
  obtain ⟨a, b, c, d⟩ := h
  refine (countsAs_r (kind := kind) a b hk).mono (fun r hr => ⟨hr.1, ?_⟩)
  rw [hr.2, c, d, h1, h2, h3, h4, h5, ← cN_eq]; rfl
theorem layCounts_r {u n pl : Nat} {I : Nat → CI} {deal mood : Int32} {B : Mem} (h : RL u n I deal mood B) (hp : pl < 2) : So (FX12_layCounts u (Int32.ofNat pl) B) (fun N => CnE u B N ∧ LC u (vN I n deal mood) (cN I n deal mood pl) N ∧ mI N (u + 27) = mI B (u + 27) ∧ mI N (u + 31) = mI B (u + 31)) := by
  have hcr : Int32.ofNat pl = crI pl := by
    obtain rfl | rfl : pl = 0 ∨ pl = 1 := by omega
    all_goals rfl
  have tl : ∀ {M N : Mem} (e : TlE u M N) (j : Nat), 21 ≤ j → j < 32 → mI N (u + j) = mI M (u + j) := fun e j a b => (e.1 (u + j) (by omega)).1
  unfold FX12_layCounts
  refine loop_for 52 (by decide) (fun i N => (CnE u B N ∧ mI N (u + 27) = mI B (u + 27) ∧ mI N (u + 31) = mI B (u + 31)) ∧ ∀ c, c < i → mI N (u + 21) c = Int32.ofNat (vN I n deal mood c)) B ⟨⟨CnE.rf, rfl, rfl⟩, fun c hc => absurd hc (by omega)⟩ (fun N1 rec1 hN1 => ?_) (fun i N rec hi hN hr => ?_)
  rotate_left
  · obtain ⟨⟨n1, n2, n3⟩, n4⟩ := hN
    refine So.ite (fun z => absurd z (nle hi (by decide))) (fun _ => ?_)
    obtain ⟨a, b, c, d⟩ := h.cn n1
    refine So_bdM (valueOf_r a b hi) (fun v K hK => ?_)
    have k1 : TlE u N K := hK.1
    have k2 : v = vOf I n (mI N (u + 2) 8) (mI N (u + 2) 6) i := hK.2
    rw [c, d, vN_eq] at k2
    rw [nn_ix (by omega), k2]
    refine So_gd (inb_nn hi (by decide)) (So_nm (So_nm (hr _ ⟨⟨(n1.tr k1.cn).tr (CnE_s (by decide)), ?_, ?_⟩, fun c hc => ?_⟩)))
    · funext k; rw [mI_n1 (by omega), tl k1 27 (by omega) (by omega), n2]
    · funext k; rw [mI_n1 (by omega), tl k1 31 (by omega) (by omega), n3]
    · by_cases z : c = i
      · rw [z, mI_e]
      · rw [mI_n2 z, tl k1 21 (by omega) (by omega)]; exact n4 c (by omega)
  refine So.ite (fun _ => ?_) (fun z => absurd z (ge_self 52))
  obtain ⟨N1a, N1b⟩ := hN1
  refine So_wl2 (fun v N => ∃ k, 2 ≤ k ∧ k ≤ 6 ∧ v = Int32.ofNat k ∧ (CnE u B N ∧ mI N (u + 27) = mI B (u + 27) ∧ mI N (u + 31) = mI B (u + 31)) ∧ (∀ c, c < 52 → mI N (u + 21) c = Int32.ofNat (vN I n deal mood c)) ∧ ∀ j, 2 ≤ j → j < k → mI N (u + 22) j = Int32.ofNat (cN I n deal mood pl 1 j) ∧ mI N (u + 24) j = Int32.ofNat (cN I n deal mood pl 3 j)) (fun v _ => 6 - ix v) ?_ fuel 2 N1 ⟨2, by omega, by omega, rfl, N1a, N1b, fun j a b => absurd b (by omega)⟩ (by unfold fuel; omega)
  rintro v N rec ⟨k, k2, k6, rfl, ⟨n1, n2, n3⟩, n4, n5⟩ hr
  by_cases hk : k = 6
  rotate_left
  · rw [if_neg (show ¬ (6 : Int32) ≤ Int32.ofNat k from nle (n := 6) (by omega) (by decide)), nn_ix (by omega)]
    refine So_bdM (cnt_r (kind := 1) pl k (h.cn n1) (by decide) rfl rfl rfl hcr rfl) (fun v K hK => ?_)
    have e1 : TlE u N K := hK.1
    have e2 : v = _ := hK.2
    refine So_gd (inb_nn (by omega) (by decide)) (So_nm ?_)
    have c1 : CnE u B (sI K (u + 22) k v) := (n1.tr e1.cn).tr (CnE_s (by decide))
    refine So_bdM (cnt_r (kind := 3) pl k (h.cn c1) (by decide) rfl rfl rfl hcr rfl) (fun w L hL => ?_)
    have f1 : TlE u (sI K (u + 22) k v) L := hL.1
    have f2 : w = _ := hL.2
    refine So_gd (inb_nn (by omega) (by decide)) (So_nm (So_nm ?_))
    rw [s1]
    refine hr _ _ ⟨k + 1, by omega, by omega, rfl, ⟨(c1.tr f1.cn).tr (CnE_s (by decide)), ?_, ?_⟩, fun c hc => ?_, fun j j2 jk => ?_⟩ (by rw [nn_ix (by omega), nn_ix (by omega)]; omega)
    · funext i; rw [mI_n1 (by omega), tl f1 27 (by omega) (by omega), mI_n1 (by omega), tl e1 27 (by omega) (by omega), n2]
    · funext i; rw [mI_n1 (by omega), tl f1 31 (by omega) (by omega), mI_n1 (by omega), tl e1 31 (by omega) (by omega), n3]
    · rw [mI_n1 (by omega), tl f1 21 (by omega) (by omega), mI_n1 (by omega), tl e1 21 (by omega) (by omega)]; exact n4 c hc
    · by_cases z : j = k
      · subst z
        rw [mI_n1 (by omega), tl f1 22 (by omega) (by omega), mI_e, mI_e, e2, f2]; exact ⟨rfl, rfl⟩
      · rw [mI_n1 (by omega), tl f1 22 (by omega) (by omega), mI_n2 z, mI_n2 z, tl e1 22 (by omega) (by omega), tl f1 24 (by omega) (by omega), mI_n1 (by omega), tl e1 24 (by omega) (by omega)]
        exact n5 j j2 (by omega)
  subst hk
  rw [if_pos (show (6 : Int32) ≤ Int32.ofNat 6 by decide)]
  clear hr k2 k6
  refine loop_for 13 (by decide) (fun i N => (CnE u B N ∧ mI N (u + 27) = mI B (u + 27) ∧ mI N (u + 31) = mI B (u + 31)) ∧ (∀ c, c < 52 → mI N (u + 21) c = Int32.ofNat (vN I n deal mood c)) ∧ (∀ j, 2 ≤ j → j < 6 → mI N (u + 22) j = Int32.ofNat (cN I n deal mood pl 1 j) ∧ mI N (u + 24) j = Int32.ofNat (cN I n deal mood pl 3 j)) ∧ ∀ r, r < i → mI N (u + 23) r = Int32.ofNat (cN I n deal mood pl 2 r)) N ⟨⟨n1, n2, n3⟩, n4, n5, fun r hr => absurd hr (by omega)⟩ (fun N3 rec3 hN3 => ?_) (fun i N rec hi hN hr => ?_)
  rotate_left
  · obtain ⟨⟨n1, n2, n3⟩, n4, n5, n6⟩ := hN
    refine So.ite (fun z => absurd z (nle hi (by decide))) (fun _ => ?_)
    refine So_bdM (cnt_r (kind := 2) pl i (h.cn n1) (by decide) rfl rfl rfl hcr rfl) (fun v K hK => ?_)
    have e1 : TlE u N K := hK.1
    have e2 : v = _ := hK.2
    rw [nn_ix (by omega)]
    refine So_gd (inb_nn hi (by decide)) (So_nm (So_nm (hr _ ⟨⟨(n1.tr e1.cn).tr (CnE_s (by decide)), ?_, ?_⟩, fun c hc => ?_, fun j a b => ?_, fun r hr => ?_⟩)))
    · funext k; rw [mI_n1 (by omega), tl e1 27 (by omega) (by omega), n2]
    · funext k; rw [mI_n1 (by omega), tl e1 31 (by omega) (by omega), n3]
    · rw [mI_n1 (by omega), tl e1 21 (by omega) (by omega)]; exact n4 c hc
    · rw [mI_n1 (by omega), mI_n1 (by omega), tl e1 22 (by omega) (by omega), tl e1 24 (by omega) (by omega)]; exact n5 j a b
    · by_cases z : r = i
      · rw [z, mI_e, e2]
      · rw [mI_n2 z, tl e1 23 (by omega) (by omega)]; exact n6 r (by omega)
  refine So.ite (fun _ => ?_) (fun z => absurd z (ge_self 13))
  clear n1 n2 n3 n4 n5
  refine loop_for 4 (by decide) (fun i N => (CnE u B N ∧ mI N (u + 27) = mI B (u + 27) ∧ mI N (u + 31) = mI B (u + 31)) ∧ (∀ c, c < 52 → mI N (u + 21) c = Int32.ofNat (vN I n deal mood c)) ∧ (∀ j, 2 ≤ j → j < 6 → mI N (u + 22) j = Int32.ofNat (cN I n deal mood pl 1 j) ∧ mI N (u + 24) j = Int32.ofNat (cN I n deal mood pl 3 j)) ∧ (∀ r, r < 13 → mI N (u + 23) r = Int32.ofNat (cN I n deal mood pl 2 r)) ∧ ∀ s, s < i → mI N (u + 25) s = Int32.ofNat (cN I n deal mood pl 4 (2 * s)) ∧ mI N (u + 25) (4 + s) = Int32.ofNat (cN I n deal mood pl 4 (2 * s + 1)) ∧ mI N (u + 26) s = Int32.ofNat (cN I n deal mood pl 5 s)) N3 ⟨hN3.1, hN3.2.1, hN3.2.2.1, hN3.2.2.2, fun r hr => absurd hr (by omega)⟩ (fun N4 rec4 hN4 => ?_) (fun i N rec hi hN hr => ?_)
  · refine So.ite (fun _ => So.ok ⟨hN4.1.1, ⟨hN4.2.1, hN4.2.2.1, hN4.2.2.2.1, hN4.2.2.2.2⟩, hN4.1.2.1, hN4.1.2.2⟩) (fun z => absurd z (ge_self 4))
  · obtain ⟨⟨n1, n2, n3⟩, n4, n5, n6, n7⟩ := hN
    refine So.ite (fun z => absurd z (nle hi (by decide))) (fun _ => ?_)
    rw [show (4 : Int32) + Int32.ofNat i = Int32.ofNat (4 + i) from nn_add 4 i, nn_ix (by omega), nn_ix (by omega)]
    refine So_bdM (cnt_r (kind := 4) pl (2 * i) (h.cn n1) (by decide) rfl (by show Int32.ofNat i = Int32.ofNat (2 * i / 2); rw [show 2 * i / 2 = i by omega]) (by show (4 : Int32) = Int32.ofNat (4 + 2 * i % 2); rw [show 4 + 2 * i % 2 = 4 by omega]; rfl) hcr (by show (4 : Int32) = Int32.ofNat (4 + 2 * i % 2); rw [show 4 + 2 * i % 2 = 4 by omega]; rfl)) (fun v K hK => ?_)
    have e1 : TlE u N K := hK.1
    have e2 : v = _ := hK.2
    refine So_gd (inb_nn (by omega) (by decide)) (So_nm ?_)
    have c1 : CnE u B (sI K (u + 25) i v) := (n1.tr e1.cn).tr (CnE_s (by decide))
    refine So_bdM (cnt_r (kind := 4) pl (2 * i + 1) (h.cn c1) (by decide) rfl (by show Int32.ofNat i = Int32.ofNat ((2 * i + 1) / 2); rw [show (2 * i + 1) / 2 = i by omega]) (by show (5 : Int32) = Int32.ofNat (4 + (2 * i + 1) % 2); rw [show 4 + (2 * i + 1) % 2 = 5 by omega]; rfl) hcr (by show (5 : Int32) = Int32.ofNat (4 + (2 * i + 1) % 2); rw [show 4 + (2 * i + 1) % 2 = 5 by omega]; rfl)) (fun w L hL => ?_)
    have f1 : TlE u (sI K (u + 25) i v) L := hL.1
    have f2 : w = _ := hL.2
    refine So_gd (inb_nn (by omega) (by decide)) (So_nm ?_)
    have c2 : CnE u B (sI L (u + 25) (4 + i) w) := (c1.tr f1.cn).tr (CnE_s (by decide))
    refine So_bdM (cnt_r (kind := 5) pl i (h.cn c2) (by decide) rfl rfl rfl hcr rfl) (fun x P hP => ?_)
    have g1 : TlE u (sI L (u + 25) (4 + i) w) P := hP.1
    have g2 : x = _ := hP.2
    refine So_gd (inb_nn (by omega) (by decide)) (So_nm (So_nm (hr _ ⟨⟨(c2.tr g1.cn).tr (CnE_s (by decide)), ?_, ?_⟩, fun c hc => ?_, fun j a b => ?_, fun r hr => ?_, fun s hs => ?_⟩)))
    · funext k; rw [mI_n1 (by omega), tl g1 27 (by omega) (by omega), mI_n1 (by omega), tl f1 27 (by omega) (by omega), mI_n1 (by omega), tl e1 27 (by omega) (by omega), n2]
    · funext k; rw [mI_n1 (by omega), tl g1 31 (by omega) (by omega), mI_n1 (by omega), tl f1 31 (by omega) (by omega), mI_n1 (by omega), tl e1 31 (by omega) (by omega), n3]
    · rw [mI_n1 (by omega), tl g1 21 (by omega) (by omega), mI_n1 (by omega), tl f1 21 (by omega) (by omega), mI_n1 (by omega), tl e1 21 (by omega) (by omega)]; exact n4 c hc
    · rw [mI_n1 (by omega), tl g1 22 (by omega) (by omega), mI_n1 (by omega), tl f1 22 (by omega) (by omega), mI_n1 (by omega), tl e1 22 (by omega) (by omega), mI_n1 (by omega), tl g1 24 (by omega) (by omega), mI_n1 (by omega), tl f1 24 (by omega) (by omega), mI_n1 (by omega), tl e1 24 (by omega) (by omega)]; exact n5 j a b
    · rw [mI_n1 (by omega), tl g1 23 (by omega) (by omega), mI_n1 (by omega), tl f1 23 (by omega) (by omega), mI_n1 (by omega), tl e1 23 (by omega) (by omega)]; exact n6 r hr
    · have k25 : ∀ k, mI (sI P (u + 26) i x) (u + 25) k = mI (sI L (u + 25) (4 + i) w) (u + 25) k := fun k => by rw [mI_n1 (by omega), tl g1 25 (by omega) (by omega)]
      have m25 : ∀ k, k ≠ 4 + i → mI (sI L (u + 25) (4 + i) w) (u + 25) k = mI (sI K (u + 25) i v) (u + 25) k := fun k hk => by rw [mI_n2 hk, tl f1 25 (by omega) (by omega)]
      have l25 : ∀ k, k ≠ i → mI (sI K (u + 25) i v) (u + 25) k = mI N (u + 25) k := fun k hk => by rw [mI_n2 hk, tl e1 25 (by omega) (by omega)]
      by_cases z : s = i
      · subst z
        rw [k25, k25, m25 s (by omega), mI_e, mI_e, mI_e, e2, f2, g2]; exact ⟨rfl, rfl, rfl⟩
      · obtain ⟨q1, q2, q3⟩ := n7 s (by omega)
        refine ⟨?_, ?_, ?_⟩
        · rw [k25, m25 s (by omega), l25 s z]; exact q1
        · rw [k25, m25 (4 + s) (by omega), l25 (4 + s) (by omega)]; exact q2
        · rw [mI_n2 z, tl g1 26 (by omega) (by omega), mI_n1 (by omega), tl f1 26 (by omega) (by omega), mI_n1 (by omega), tl e1 26 (by omega) (by omega)]; exact q3
