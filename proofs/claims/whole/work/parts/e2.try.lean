/-! ===== the reference tries all plays ===== -/
def TdE (u : Nat) (M N : Mem) : Prop := Eo (fun q => q = u ∨ q = u + 2 ∨ q = u + 18 ∨ q = u + 20 ∨ (u + 32 ≤ q ∧ q < u + 37)) M N ∧ (∀ k, k ≠ 34 → k ≠ 38 → mI N u k = mI M u k) ∧ ∀ k, k < 8 ∨ 130 ≤ k → mI N (u + 2) k = mI M (u + 2) k
theorem TdE.rf {u : Nat} {M : Mem} : TdE u M M := ⟨Eo.rf, fun _ _ _ => rfl, fun _ _ => rfl⟩
theorem TdE.tr {u : Nat} {M N K : Mem} (h : TdE u M N) (h2 : TdE u N K) : TdE u M K := ⟨h.1.tr h2.1, fun k a b => (h2.2.1 k a b).trans (h.2.1 k a b), fun k a => (h2.2.2 k a).trans (h.2.2 k a)⟩
theorem TlE.td {u : Nat} {M N : Mem} (h : TlE u M N) : TdE u M N := ⟨h.1.up (fun q hq => by omega), h.2.1, fun k _ => by rw [h.row]⟩
theorem TdE_s {u j k : Nat} {M : Mem} {v : Int32} (h : 32 ≤ j ∧ j < 37) : TdE u M (sI M (u + j) k v) := ⟨Eo_sI (by omega), fun i _ _ => by rw [mI_n1 (by omega)], fun i _ => by rw [mI_n1 (by omega)]⟩
theorem putDeep_r {u i : Nat} {M : Mem} (hi : i ≤ 9) : So (FX12_putDeep u (Int32.ofNat i) M) (fun N => Eo (fun q => q = u + 2) M N ∧ (∀ j, j < 122 → mI N (u + 2) (8 + j) = mI M (u + 32) (122 * i + j)) ∧ ∀ k, (k < 8 ∨ 130 ≤ k) → mI N (u + 2) k = mI M (u + 2) k) := by
  unfold FX12_putDeep
  refine loop_for 122 (by decide) (fun n N => Eo (fun q => q = u + 2) M N ∧ (∀ j, j < n → mI N (u + 2) (8 + j) = mI M (u + 32) (122 * i + j)) ∧ ∀ k, (k < 8 ∨ 130 ≤ k) → mI N (u + 2) k = mI M (u + 2) k) M ⟨Eo.rf, fun j hj => absurd hj (by omega), fun k _ => rfl⟩ (fun N rec hI => ?_) (fun n N rec hn hI hr => ?_)
  · exact So.ite (fun _ => So.ok hI) (fun h => absurd h (ge_self 122))
  · obtain ⟨hE, h1, h2⟩ := hI
    have e1 : (8 : Int32) + Int32.ofNat n = Int32.ofNat (8 + n) := nn_add 8 n
    have e2 : (122 : Int32) * Int32.ofNat i + Int32.ofNat n = Int32.ofNat (122 * i + n) := by
      rw [show (122 : Int32) * Int32.ofNat i = Int32.ofNat (122 * i) from nn_mul 122 i, nn_add]
    refine So.ite (fun h => absurd h (nle hn (by decide))) (fun _ => So_gd (by rw [e2]; exact inb_nn (by omega) (by decide)) (So_gd (by rw [e1]; exact inb_nn (by omega) (by decide)) (So_nm (So_nm (hr _ ?_)))))
    rw [e1, e2, nn_ix (by omega), nn_ix (by omega)]
    refine ⟨hE.tr (Eo_sI rfl), fun j hj => ?_, fun k hk => ?_⟩
    · rw [mI_sI]
      by_cases hjn : j = n
      · subst hjn
        rw [if_pos ⟨rfl, rfl⟩, (hE (u + 32) (by omega)).1]
      · rw [if_neg (by omega)]; exact h1 j (by omega)
    · rw [mI_sI, if_neg (by omega)]; exact h2 k hk
theorem keepDeep_r {u i : Nat} {M : Mem} (hi : i ≤ 9) : So (FX12_keepDeep u (Int32.ofNat i) M) (fun N => Eo (fun q => u + 32 ≤ q ∧ q < u + 37) M N ∧ (∀ j, j < 122 → mI N (u + 32) (122 * i + j) = mI M (u + 2) (8 + j)) ∧ (∀ k, k < 122 * i → mI N (u + 32) k = mI M (u + 32) k) ∧ (mI N (u + 33) i = -1 ∧ mI N (u + 36) i = -1 ∧ mI N (u + 35) i = 0) ∧ (∀ k, k ≠ i → mI N (u + 33) k = mI M (u + 33) k ∧ mI N (u + 35) k = mI M (u + 35) k ∧ mI N (u + 36) k = mI M (u + 36) k) ∧ mI N (u + 34) = mI M (u + 34)) := by
  unfold FX12_keepDeep
  refine loop_for 122 (by decide) (fun n N => Eo (fun q => q = u + 32) M N ∧ (∀ j, j < n → mI N (u + 32) (122 * i + j) = mI M (u + 2) (8 + j)) ∧ ∀ k, k < 122 * i → mI N (u + 32) k = mI M (u + 32) k) M ⟨Eo.rf, fun j hj => absurd hj (by omega), fun k _ => rfl⟩ (fun N rec hI => ?_) (fun n N rec hn hI hr => ?_)
  · obtain ⟨hE, h1, h2⟩ := hI
    refine So.ite (fun _ => ?_) (fun h => absurd h (ge_self 122))
    rw [nn_ix (by omega)]
    refine So_gd (inb_nn (by omega) (by decide)) (So_nm (So_gd (inb_nn (by omega) (by decide)) (So_nm (So_gd (inb_nn (by omega) (by decide)) (So_nm (So.ok ⟨(((hE.up (fun q hq => by omega)).tr (Eo_sI (by omega))).tr (Eo_sI (by omega))).tr (Eo_sI (by omega)), fun j hj => ?_, fun k hk => ?_, ⟨?_, ?_, ?_⟩, fun k hk => ⟨?_, ?_, ?_⟩, ?_⟩))))))
    · rw [mI_n1 (by omega), mI_n1 (by omega), mI_n1 (by omega)]; exact h1 j hj
    · rw [mI_n1 (by omega), mI_n1 (by omega), mI_n1 (by omega)]; exact h2 k hk
    · rw [mI_n1 (by omega), mI_n1 (by omega), mI_e]
    · rw [mI_n1 (by omega), mI_e]
    · rw [mI_e]
    · rw [mI_n1 (by omega), mI_n1 (by omega), mI_n2 hk, (hE (u + 33) (by omega)).1]
    · rw [mI_n2 hk, mI_n1 (by omega), mI_n1 (by omega), (hE (u + 35) (by omega)).1]
    · rw [mI_n1 (by omega), mI_n2 hk, mI_n1 (by omega), (hE (u + 36) (by omega)).1]
    · funext k; rw [mI_n1 (by omega), mI_n1 (by omega), mI_n1 (by omega), (hE (u + 34) (by omega)).1]
  · obtain ⟨hE, h1, h2⟩ := hI
    have e1 : (8 : Int32) + Int32.ofNat n = Int32.ofNat (8 + n) := nn_add 8 n
    have e2 : (122 : Int32) * Int32.ofNat i + Int32.ofNat n = Int32.ofNat (122 * i + n) := by
      rw [show (122 : Int32) * Int32.ofNat i = Int32.ofNat (122 * i) from nn_mul 122 i, nn_add]
    refine So.ite (fun h => absurd h (nle hn (by decide))) (fun _ => So_gd (by rw [e1]; exact inb_nn (by omega) (by decide)) (So_gd (by rw [e2]; exact inb_nn (by omega) (by decide)) (So_nm (So_nm (hr _ ?_)))))
    rw [e1, e2, nn_ix (by omega), nn_ix (by omega)]
    refine ⟨hE.tr (Eo_sI rfl), fun j hj => ?_, fun k hk => ?_⟩
    · rw [mI_sI]
      by_cases hjn : j = n
      · subst hjn
        rw [if_pos ⟨rfl, rfl⟩, (hE (u + 2) (by omega)).1]
      · rw [if_neg (by omega)]; exact h1 j (by omega)
    · rw [mI_sI, if_neg (by omega)]; exact h2 k hk
/-- is it better for whose turn it is -/
def btr (turn bc ba v : Int32) : Prop := bc = -1 ∨ (turn = 0 ∧ ¬ v ≤ ba) ∨ (¬ turn = 0 ∧ ¬ ba ≤ v)
theorem takeBest_r {u d : Nat} {v : Int32} {M : Mem} (hd : d < 10) : So (FX12_takeBest u (Int32.ofNat d) v M) (fun N => (btr (mI M (u + 2) 14) (mI M (u + 36) d) (mI M (u + 35) d) v ∧ N = sI (sI M (u + 36) d (mI M (u + 33) d)) (u + 35) d v) ∨ (¬ btr (mI M (u + 2) 14) (mI M (u + 36) d) (mI M (u + 35) d) v ∧ N = sI (sI M (u + 36) d (mI M (u + 36) d)) (u + 35) d (mI M (u + 35) d))) := by
  have hb : inb (Int32.ofNat d) 10 = true := inb_nn hd (by decide)
  unfold FX12_takeBest
  rw [nn_ix (by omega)]
  generalize hT : btr (mI M (u + 2) 14) (mI M (u + 36) d) (mI M (u + 35) d) v = T
  refine So_gd hb (So_jn1R (fun x => (T ∧ x = 1) ∨ (¬ T ∧ x = 0)) (fun x hx => ?_) (fun j4 hj4 => So_jn0C T (fun q => hj4 _ (Or.inl ⟨q, rfl⟩)) (fun j24 hj24 => ?_)))
  · rcases hx with ⟨t1, rfl⟩ | ⟨t1, rfl⟩
    · refine So_jn1 ?_
      rw [if_neg (by decide)]
      refine So_gd hb (So_gd hb (So_nm (So_jn1 ?_)))
      rw [if_neg (by decide)]
      exact So_gd hb (So_nm (So.ok (Or.inl ⟨t1, rfl⟩)))
    · refine So_jn1 ?_
      rw [if_pos rfl]
      refine So_gd hb (So_gd hb (So_nm (So_jn1 ?_)))
      rw [if_pos rfl]
      refine So_gd hb (So_gd hb (So_nm (So.ok (Or.inr ⟨t1, ?_⟩))))
      rw [mI_n1 (by omega)]
  · refine So.ite (fun q => hj24 (by rw [← hT]; exact Or.inl q)) (fun q1 => So_jn0C (¬ T) (fun q => hj4 _ (Or.inr ⟨q, rfl⟩)) (fun j27 hj27 => ?_))
    refine So.ite (fun q2 => So_gd hb (So.ite (fun q3 => hj27 ?_) (fun q3 => hj24 ?_))) (fun q2 => So_gd hb (So.ite (fun q3 => hj27 ?_) (fun q3 => hj24 ?_)))
    · rw [← hT]
      rintro (w | w | w)
      · exact q1 w
      · exact q2 w.1
      · exact w.2 q3
    · rw [← hT]; exact Or.inr (Or.inr ⟨q2, q3⟩)
    · rw [← hT]
      have q2 := Classical.not_not.mp q2
      rintro (w | w | w)
      · exact q1 w
      · exact w.2 q3
      · exact w.1 q2
    · rw [← hT]; exact Or.inr (Or.inl ⟨Classical.not_not.mp q2, q3⟩)
/-- the loop's body -/
def upT (t : Nat) (v2 : Int32) (M17 : Mem) (rec4 : Int32 → Mem → Option Mem) : Option Mem :=
  gd (inb v2 10) <|
  nm (mI M17 (t + 35) (ix v2)) fun v28 =>
  nm (v2 + (-1)) fun v29 =>
  if v29 < 0 then
    rec4 v29 M17
  else
  (FX12_putDeep t v29 M17).bind fun M30 =>
  gd (inb v29 10) <|
  (FX12_takeBest t v29 ((mI M30 (t + 34) (ix v29)) + v28) M30).bind fun M33 =>
  rec4 v29 M33
def dnT (t : Nat) (v2 v9 v13 : Int32) (M17 : Mem) (rec4 : Int32 → Mem → Option Mem) : Option Mem :=
  gd (inb v2 10) <|
  nm (sI M17 (t + 33) (ix v2) v13) fun M35 =>
  bdM (FX12_playIt t v13 M35) fun r38 M37 =>
  jn1 (fun (v40 : Int32) =>
    gd (inb v2 10) <|
    nm (sI M37 (t + 34) (ix v2) v40) fun M43 =>
    nm (v2 + 1) fun v45 =>
    (FX12_keepDeep t v45 M43).bind fun M46 =>
    rec4 v45 M46) fun j41 =>
  if ¬ v9 = 0 then
    j41 (-r38)
  else
  j41 r38
def tstep (t : Nat) (v2 : Int32) (M3 : Mem) (rec4 : Int32 → Mem → Option Mem) : Option Mem :=
  if v2 < 0 then
    (FX12_putDeep t 0 M3).bind fun M6 =>
    some M6
  else
  (FX12_putDeep t v2 M3).bind fun M7 =>
  nm (mI M7 (t + 2) 14) fun v9 =>
  gd (inb v2 10) <|
  nm ((mI M7 (t + 33) (ix v2)) + 1) fun v12 =>
  wl2 (fun (v13 : Int32) (M14 : Mem) rec15 =>
    jn1 (fun (M17 : Mem) =>
      jn0 (upT t v2 M17 rec4) fun j24 =>
      if v9 = (-1) then
        j24
      else
      if 52 ≤ v13 then
        j24
      else
      dnT t v2 v9 v13 M17 rec4) fun j18 =>
    if v9 = (-1) then
      j18 M14
    else
    if 52 ≤ v13 then
      j18 M14
    else
    bdM (FX12_canPlay t v13 v9 M14) fun r48 M47 =>
    if ¬ r48 = 0 then
      j18 M47
    else
    nm (v13 + 1) fun v49 =>
    rec15 v49 M47) fuel v12 M7
theorem tryAll_eq (t : Nat) (M : Mem) : FX12_tryAll t M = (FX12_keepDeep t 0 M).bind fun M1 => wl2 (tstep t) fuel 0 M1 := rfl
