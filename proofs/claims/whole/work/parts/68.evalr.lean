/-! ===== what a clause tells: the reference ===== -/
theorem rc_end {n hi : Nat} {co ca : Nat → Int32} {lv : Int32 → Int32 → Int64} {s : List Int64} (hn : 0 < n) : rcP co ca lv hi n hi s = some (some s) := by
  cases n with
  | zero => omega
  | succ n => unfold rcP; rw [if_pos (Nat.le_refl _)]
/-- codes and words where the reference finds them, for one sum or test -/
def RcS (u : Nat) (M : Mem) (o a b : Nat) (co ca : Nat → Int32) (lv : Int32 → Int32 → Int64) : Prop := b ≤ 400 ∧ ((o = 0 ∧ mI M u 20 = 0 ∧ (∃ p : Nat, mI M u 34 = Int32.ofNat p ∧ p + 98 + 2 * b + 1 < 5594 ∧ ∀ k, a ≤ k → k < b → mI M (u + 2) (p + 98 + 2 * k) = co k ∧ mI M (u + 2) (p + 98 + 2 * k + 1) = ca k) ∧ ∀ op x : Int32, 0 ≤ op.toInt → op.toInt < 13 → lv op x = if op = 0 then x.toInt64 else mJ M (u + 18) (ix op))
  ∨ (o = 1 ∧ mI M u 20 = 1 ∧ (∀ k, a ≤ k → k < b → mI M (u + 11) k = co k ∧ mI M (u + 12) k = ca k) ∧ ∀ op x : Int32, 0 ≤ op.toInt → ((op.toInt < 6 ∨ (0 ≤ x.toInt ∧ x.toInt < 12)) → lv op x = if op = 0 then x.toInt64 else if op.toInt < 6 then mJ M (u + 19) (ix op) else if op = 6 then (mI M (u + 2) (16 + ix x)).toInt64 else (at1 (cs (fun c => decide (mI M (u + 2) (18 + c) = Int32.ofNat (ix x / 6)))) (ix x % 6)).toInt64)))
theorem reck_seg {u o a b : Nat} {M : Mem} {co ca : Nat → Int32} {lv : Int32 → Int32 → Int64} {tl : Int32 → Int32} {f : Option Den} (hM : RcS u M o a b co ca lv) (h : sgR o co ca a b f) (hc : Cmp o lv tl) : So (FX12_reckonAll u (Int32.ofNat a) (Int32.ofNat b) M) (fun N => RcE u M N ∧ ((dV f tl = none ∧ mI N u 38 = 1) ∨ ∃ v, dV f tl = some v ∧ mI N u 38 = 0 ∧ mJ N u 39 = v)) := by
  have hb4 := hM.1
  have hle := h.le
  have key : ∃ n res, n < 1000 ∧ rcP co ca lv b n a [] = some res ∧ ((dV f tl = none ∧ res = none) ∨ ∃ s, res = some s ∧ dV f tl = some (bot s)) := by
    rcases h with ⟨rfl, rfl⟩ | ⟨g, X, rfl, rfl, hcc, hd⟩
    · exact ⟨1, some [], by omega, rc_end (by omega), Or.inr ⟨[], rfl, rfl⟩⟩
    · obtain ⟨n', h1, e⟩ := hd.2 co ca (a + X.length) lv tl [] 1 hcc (Nat.le_refl _) (by simp) hc
      cases hg : g tl with
      | none => exact ⟨1 + X.length, none, by omega, by rw [e, hg]; rfl, Or.inl ⟨hg, rfl⟩⟩
      | some v => exact ⟨1 + X.length, some [v], by omega, by rw [e, hg]; exact rc_end (by omega), Or.inr ⟨[v], rfl, hg⟩⟩
  obtain ⟨n, res, hn, hr, hres⟩ := key
  have hok : ∀ k, a ≤ k → k < b → ((co k).toInt < 20 → 0 ≤ (co k).toInt ∧ (o = 0 → (co k).toInt < 13) ∧ (o = 1 → (co k).toInt < 6 ∨ (0 ≤ (ca k).toInt ∧ (ca k).toInt < 12))) ∧ (¬ (co k).toInt < 29 → (k : Int) < (ca k).toInt) := by
    intro k hk1 hk2
    rcases h with ⟨_, rfl⟩ | ⟨g, X, _, rfl, hcc, hd⟩
    · omega
    · have c := hcc (k - a) (by omega)
      have q := hd.1 (k - a) (by omega)
      rw [show a + (k - a) = k by omega] at c q
      obtain ⟨q1, q2, q3, q4⟩ := q
      rw [c.1, c.2, nn_int (by omega), nn_int (by omega)]
      refine ⟨fun z => ⟨by omega, fun y => ?_, fun y => ?_⟩, fun z => ?_⟩
      · have := (q1 (by omega)).1 y; omega
      · have := (q1 (by omega)).2 y; omega
      · have := q2 (by omega); omega
  have hRM : RcM u M a b co ca lv := by
    refine ⟨hb4, ?_⟩
    rcases hM.2 with ⟨o0, m1, m2, m3⟩ | ⟨o1, m1, m2, m3⟩
    · refine Or.inl ⟨m1, m2, fun k k1 k2 k3 => ?_⟩
      have q := (hok k k1 k2).1 k3
      exact ⟨q.1, q.2.1 o0, m3 _ _ q.1 (q.2.1 o0)⟩
    · refine Or.inr ⟨m1, m2, fun k k1 k2 k3 => ?_⟩
      have q := (hok k k1 k2).1 k3
      exact ⟨q.1, q.2.2 o1, m3 _ _ q.1 (q.2.2 o1)⟩
  refine (reckonAll_so hRM hn (by omega) (fun k k1 k2 => (hok k k1 k2).2) hr).mono (fun N hN => ⟨hN.1, ?_⟩)
  rcases hres with ⟨x1, x2⟩ | ⟨s, x1, x2⟩
  · exact Or.inl ⟨x1, hN.2.1 x2⟩
  · have := hN.2.2 s x1
    exact Or.inr ⟨bot s, x2, this.1, this.2⟩
/-! a law's clause -/
/-- the law at p of the row, as the reference holds it -/
def RLw (r : Nat → Int32) (p n len : Nat) (I : Nat → CI) : Prop := n ≤ 12 ∧ len ≤ 400 ∧ p + 900 ≤ 5594 ∧ r (p + 1) = Int32.ofNat n ∧ TxL (fun k => r (p + 98 + 2 * k)) (fun k => r (p + 98 + 2 * k + 1)) (fun k => r (p + 2 + k)) len n I ∧ (∀ i, i < n → (I i).1 ≤ 6 ∧ (I i).2.2.2.1 = none ∧ ((I i).1 = 6 → (I i).2.2.1 = none))
/-- what reckoning may change -/
def TlE (u : Nat) (M N : Mem) : Prop := Eo (fun q => q = u ∨ q = u + 18 ∨ q = u + 20) M N ∧ (∀ k, k ≠ 34 → k ≠ 38 → mI N u k = mI M u k) ∧ (∀ k, k ≠ 39 → k ≠ 40 → mJ N u k = mJ M u k) ∧ mR N u = mR M u ∧ mN N u = mN M u
theorem TlE.rf {u : Nat} {M : Mem} : TlE u M M := ⟨Eo.rf, fun _ _ _ => rfl, fun _ _ _ => rfl, rfl, rfl⟩
theorem TlE.tr {u : Nat} {M N K : Mem} (a : TlE u M N) (b : TlE u N K) : TlE u M K := ⟨a.1.tr b.1, fun k h1 h2 => (b.2.1 k h1 h2).trans (a.2.1 k h1 h2), fun k h1 h2 => (b.2.2.1 k h1 h2).trans (a.2.2.1 k h1 h2), b.2.2.2.1.trans a.2.2.2.1, b.2.2.2.2.trans a.2.2.2.2⟩
theorem RcE.tl {u : Nat} {M N : Mem} (h : RcE u M N) : TlE u M N := ⟨h.1.up (fun a ha => by omega), fun k _ h2 => h.2.1 k h2, fun k h1 _ => h.2.2.1 k h1, h.2.2.2.1, h.2.2.2.2.1⟩
/-- the words of a law -/
def wA (deal rank suit size crib mood : Int32) (k : Nat) : Int32 := if k = 0 then deal else if k = 1 then rank else if k = 2 then suit else if k = 3 then size else if k = 4 then crib else if k = 5 then mood else 0
def wE (deal rank suit size crib mood : Int32) (w : Int32) : Int32 := tlD (wA deal rank suit size crib mood) w
theorem wE_k {deal rank suit size crib mood : Int32} {k : Nat} (hk : k < 19) : wE deal rank suit size crib mood (Int32.ofNat k) = wA deal rank suit size crib mood k := by
  unfold wE tlD
  rw [if_pos (by rw [nn_int (by omega)]; omega), nn_ix (by omega)]
def lvL (M : Mem) (u : Nat) (op x : Int32) : Int64 := if op = 0 then x.toInt64 else mJ M (u + 18) (ix op)
def SetM (u : Nat) (M : Mem) (deal rank suit size crib mood : Int32) : Prop := mJ M (u + 18) 1 = rank.toInt64 ∧ mJ M (u + 18) 2 = suit.toInt64 ∧ mJ M (u + 18) 3 = size.toInt64 ∧ mJ M (u + 18) 4 = crib.toInt64 ∧ mJ M (u + 18) 5 = deal.toInt64 ∧ mJ M (u + 18) 6 = mood.toInt64
theorem cmpL {u : Nat} {M : Mem} {deal rank suit size crib mood : Int32} (h : SetM u M deal rank suit size crib mood) : Cmp 0 (lvL M u) (wE deal rank suit size crib mood) := by
  obtain ⟨h1, h2, h3, h4, h5, h6⟩ := h
  refine ⟨fun n _ => ?_, fun _ k hk => ?_, fun z => by omega⟩
  · unfold lvL; rw [if_pos rfl]
  · obtain rfl | rfl | rfl | rfl | rfl | rfl : k = 0 ∨ k = 1 ∨ k = 2 ∨ k = 3 ∨ k = 4 ∨ k = 5 := by omega
    · rw [wE_k (k := ([1, 2, 3, 4, 0, 5] : List Nat).getD 0 0) (by decide)]; exact h1
    · rw [wE_k (k := ([1, 2, 3, 4, 0, 5] : List Nat).getD 1 0) (by decide)]; exact h2
    · rw [wE_k (k := ([1, 2, 3, 4, 0, 5] : List Nat).getD 2 0) (by decide)]; exact h3
    · rw [wE_k (k := ([1, 2, 3, 4, 0, 5] : List Nat).getD 3 0) (by decide)]; exact h4
    · rw [wE_k (k := ([1, 2, 3, 4, 0, 5] : List Nat).getD 4 0) (by decide)]; exact h5
    · rw [wE_k (k := ([1, 2, 3, 4, 0, 5] : List Nat).getD 5 0) (by decide)]; exact h6
theorem isSo_r {u p n len i : Nat} {I : Nat → CI} {M : Mem} {deal rank suit size crib mood : Int32} (hL : RLw (mI M (u + 2)) p n len I) (hi : i < n) (h20 : mI M u 20 = 0) (h34 : mI M u 34 = Int32.ofNat p) (hS : SetM u M deal rank suit size crib mood) : So (FX12_isSo u (Int32.ofNat (p + 2 + 8 * i)) M) (fun r => (TlE u M r.2 ∧ mI r.2 u 34 = mI M u 34 ∧ mJ r.2 (u + 18) = mJ M (u + 18)) ∧ ((∃ v, hI (I i) (wE deal rank suit size crib mood) = some v ∧ r.1 = 1 ∧ ((I i).1 ≠ 6 → mJ r.2 u 40 = v)) ∨ (hI (I i) (wE deal rank suit size crib mood) = none ∧ r.1 = 0))) := by
  obtain ⟨n1, n2, n3, n4, n5, n6⟩ := hL
  obtain ⟨b1, b2, b3, c0, c3, c4, c5, c6, l3, g1, g2⟩ := n5 i hi
  obtain ⟨k6, f2n, kb⟩ := n6 i hi
  have c0 : mI M (u + 2) (p + 2 + 8 * i) = Int32.ofNat (I i).1 := c0
  have c3 : mI M (u + 2) (p + 2 + 8 * i + 3) = Int32.ofNat b1 := c3
  have c4 : mI M (u + 2) (p + 2 + 8 * i + 4) = Int32.ofNat b2 := c4
  have c5 : mI M (u + 2) (p + 2 + 8 * i + 5) = Int32.ofNat b2 := c5
  have c6 : mI M (u + 2) (p + 2 + 8 * i + 6) = Int32.ofNat b3 := c6
  have l1 := g1.le
  have l2 := g2.le
  have hp : p + 2 + 8 * i + 6 < 5594 := by omega
  have ad : ∀ c : Nat, c ≤ 6 → Int32.ofNat (p + 2 + 8 * i) + Int32.ofNat c = Int32.ofNat (p + 2 + 8 * i + c) ∧ inb (Int32.ofNat (p + 2 + 8 * i + c)) 5594 = true ∧ ix (Int32.ofNat (p + 2 + 8 * i + c)) = p + 2 + 8 * i + c := fun c hc => ⟨nn_add _ _, inb_nn (by omega) (by decide), nn_ix (by omega)⟩
  have a3 := ad 3 (by decide)
  have a4 := ad 4 (by decide)
  have a5 := ad 5 (by decide)
  have a6 := ad 6 (by decide)
  have a0 := ad 0 (by decide)
  unfold FX12_isSo
  rw [show (5 : Int32) = Int32.ofNat 5 from rfl, show (6 : Int32) = Int32.ofNat 6 from rfl, show (3 : Int32) = Int32.ofNat 3 from rfl, show (4 : Int32) = Int32.ofNat 4 from rfl, a5.1, a6.1, a3.1, a4.1, a5.2.2, a6.2.2, a3.2.2, a4.2.2]
  refine So_gd a5.2.1 (So_gd a6.2.1 ?_)
  have hcmp := cmpL hS
  have seg : ∀ K, TlE u M K → mI K u 34 = mI M u 34 → mJ K (u + 18) = mJ M (u + 18) → ∀ x y f, sgR 0 (fun k => mI M (u + 2) (p + 98 + 2 * k)) (fun k => mI M (u + 2) (p + 98 + 2 * k + 1)) x y f → y ≤ 400 → So (FX12_reckonAll u (Int32.ofNat x) (Int32.ofNat y) K) (fun N => RcE u K N ∧ ((dV f (wE deal rank suit size crib mood) = none ∧ mI N u 38 = 1) ∨ ∃ v, dV f (wE deal rank suit size crib mood) = some v ∧ mI N u 38 = 0 ∧ mJ N u 39 = v)) := by
    intro K e1 e2 e3 x y f hs hy
    have r2 : mI K (u + 2) = mI M (u + 2) := (e1.1 (u + 2) (by omega)).1
    refine reck_seg (o := 0) (lv := lvL M u) ⟨hy, Or.inl ⟨rfl, by rw [e1.2.1 20 (by decide) (by decide)]; exact h20, ⟨p, by rw [e2]; exact h34, by omega, fun k _ _ => by rw [r2]; exact ⟨rfl, rfl⟩⟩, fun op x _ _ => by unfold lvL; rw [e3]⟩⟩ hs hcmp
  refine So_jn1R (fun K => (TlE u M K ∧ mI K u 34 = mI M u 34 ∧ mJ K (u + 18) = mJ M (u + 18)) ∧ dT (I i).2.2.2.2 (wE deal rank suit size crib mood) = true) (fun K hK => ?_) (fun j6 hj6 => ?_)
  · obtain ⟨⟨e1, e2, e3⟩, hT⟩ := hK
    have r2 : mI K (u + 2) = mI M (u + 2) := (e1.1 (u + 2) (by omega)).1
    have h0 : ix (Int32.ofNat (p + 2 + 8 * i)) = p + 2 + 8 * i := nn_ix (by omega)
    rw [h0, r2, c0]
    refine So_gd (inb_nn (by omega) (by decide)) ?_
    have e6 : (Int32.ofNat (I i).1 = Int32.ofNat 6) ↔ (I i).1 = 6 := nn_eq (by omega) (by omega)
    by_cases z6 : (I i).1 = 6
    · rw [if_pos (e6.mpr z6)]
      refine So.ok ⟨⟨e1, e2, e3⟩, Or.inl ⟨0, ?_, rfl, fun z => absurd z6 z⟩⟩
      unfold hI
      rw [if_pos hT, kb z6, f2n]; rfl
    · rw [if_neg (fun z => z6 (e6.mp z))]
      refine So_gd a3.2.1 (So_gd a4.2.1 ?_)
      rw [c3, c4]
      refine So.bind (seg K e1 e2 e3 b1 b2 _ g1 (by omega)) (fun N hN => So_nm (So_jn1 ?_))
      obtain ⟨q1, q2⟩ := hN
      have t1 : TlE u M (sJ N u 40 (mJ N u 39)) := (e1.tr q1.tl).tr ⟨Eo_sJ (Or.inl rfl), fun _ _ _ => rfl, fun k _ h2 => by rw [mJ_sJ, if_neg (fun z => h2 z.2)], rfl, rfl⟩
      have t2 : mI (sJ N u 40 (mJ N u 39)) u 34 = mI M u 34 := by rw [mI_sJ, q1.2.1 34 (by decide)]; exact e2
      have t3 : mJ (sJ N u 40 (mJ N u 39)) (u + 18) = mJ M (u + 18) := by
        funext k
        rw [mJ_sJ, if_neg (by omega), (q1.1 (u + 18) (by omega)).2.1, e3]
      have m38 : mI (sJ N u 40 (mJ N u 39)) u 38 = mI N u 38 := rfl
      rw [m38]
      rcases q2 with ⟨w1, w2⟩ | ⟨v, w1, w2, w3⟩
      · rw [w2, if_pos (by decide)]
        refine So_gd rfl (So.ok ⟨⟨t1, t2, t3⟩, Or.inr ⟨?_, rfl⟩⟩)
        unfold hI
        rw [if_pos hT, w1]; rfl
      · rw [w2, if_neg (by decide)]
        refine So_gd rfl (So.ok ⟨⟨t1, t2, t3⟩, Or.inl ⟨v, ?_, rfl, fun _ => ?_⟩⟩)
        · unfold hI
          rw [if_pos hT, w1, f2n]; rfl
        · rw [mJ_sJ, if_pos ⟨rfl, rfl⟩]; exact w3
  · rw [c5, c6]
    rcases g2 with ⟨e, rfl⟩ | ⟨g, X, e, rfl, hcc, hdd⟩
    · rw [if_pos (Int32.le_refl _)]
      refine hj6 _ ⟨⟨TlE.rf, rfl, rfl⟩, ?_⟩
      rw [e]; rfl
    · have hne := DR_ne hdd (by decide) hcmp
      rw [if_neg (nle (show b2 < b2 + X.length by omega) (by omega))]
      refine So_gd a5.2.1 (So_gd a6.2.1 (So.bind (seg M TlE.rf rfl rfl b2 (b2 + X.length) (some g) (Or.inr ⟨g, X, rfl, rfl, hcc, hdd⟩) (by omega)) (fun N hN => So_jn0 ?_)))
      obtain ⟨q1, q2⟩ := hN
      have fr : TlE u M N ∧ mI N u 34 = mI M u 34 ∧ mJ N (u + 18) = mJ M (u + 18) := ⟨q1.tl, q1.2.1 34 (by decide), (q1.1 (u + 18) (by omega)).2.1⟩
      rcases q2 with ⟨w1, w2⟩ | ⟨v, w1, w2, w3⟩
      · have w1 : g (wE deal rank suit size crib mood) = none := w1
        rw [w2, if_pos (by decide)]
        refine So.ok ⟨fr, Or.inr ⟨?_, rfl⟩⟩
        unfold hI dT
        rw [e]; simp only [w1]; rfl
      · have w1 : g (wE deal rank suit size crib mood) = some v := w1
        rw [w2, if_neg (by decide), w3]
        by_cases z : v = 0
        · rw [if_neg (fun y => y z)]
          refine So.ok ⟨fr, Or.inr ⟨?_, rfl⟩⟩
          unfold hI dT
          rw [e]; simp only [w1, z]; rfl
        · rw [if_pos z]
          refine hj6 _ ⟨fr, ?_⟩
          rw [e]; unfold dT; simp [w1, z]
