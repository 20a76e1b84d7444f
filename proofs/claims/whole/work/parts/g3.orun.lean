/-! ===== what the words of orders tell ===== -/
def wO (r : Nat → Int32) (dn lt : Int32) (k : Nat) : Int32 := if k = 0 then r 9 else if k = 1 then dn else if k = 2 then lt else if k = 3 then r 12 else if k = 4 then r 14 else if k = 5 then r 16 else if k = 6 then r 17 else if k < 13 then at1 (cs (fun c => decide (r (18 + c) = Int32.ofNat 0))) (k - 7) else at1 (cs (fun c => decide (r (18 + c) = Int32.ofNat 1))) (k - 13)
def tlO (r : Nat → Int32) (dn lt : Int32) : Int32 → Int32 := tlD (wO r dn lt)
theorem tlO_k {r : Nat → Int32} {dn lt : Int32} {k : Nat} (hk : k < 19) : tlO r dn lt (Int32.ofNat k) = wO r dn lt k := by
  unfold tlO tlD
  rw [if_pos (by rw [nn_int (by omega)]; omega), nn_ix (by omega)]
theorem tl_cg {W W' : Nat → Int32} (h : ∀ k, k < 19 → W k = W' k) : tlD W = tlD W' := by
  funext w
  unfold tlD
  by_cases c : 0 ≤ w.toInt ∧ w.toInt < 19
  · rw [if_pos c, if_pos c, h _ (by rw [ix_def]; omega)]
  · rw [if_neg c, if_neg c]
theorem tellTable_c {t : Nat} {A : Mem} {r : Nat → Int32} {dn lt : Int32} (hR : TR A (t + 1 + 1) r) (h1 : mI A (t + 177) 1 = dn) (h2 : mI A (t + 177) 2 = lt) : So (FX11_tellTable t A) (fun N => Eo (fun q => q = t + 177) A N ∧ ∀ k, k < 19 → mI N (t + 177) k = wO r dn lt k) := by
  unfold FX11_tellTable
  have e5 : mI A (t + 1 + 1) 5 = r 9 := hR.2.2.2.2.1
  have e9 : mI A (t + 1 + 1) 9 = r 12 := hR.2.2.2.2.2.2.2.2.1
  have e10 : mI A (t + 1 + 1) 10 = r 14 := hR.2.2.2.2.2.2.2.2.2.1
  refine So.bindE (show FX7_tell (t + 176) 0 _ A = _ from tell7 (t := t + 176) (k := 0) (by decide)) ?_
  rw [mI_n1 (by omega), e5, e9]
  refine So.bindE (show FX7_tell (t + 176) 3 _ _ = _ from tell7 (t := t + 176) (k := 3) (by decide)) ?_
  rw [mI_n1 (by omega), mI_n1 (by omega), e10]
  refine So.bindE (show FX7_tell (t + 176) 4 _ _ = _ from tell7 (t := t + 176) (k := 4) (by decide)) ?_
  generalize hM8 : sI (sI (sI A (t + 176 + 1) 0 (r 9)) (t + 176 + 1) 3 (r 12)) (t + 176 + 1) 4 (r 14) = M8
  have E8 : Eo (fun q => q = t + 177) A M8 := by rw [← hM8]; exact ((Eo_sI (P := fun q => q = t + 177) (by omega)).tr (Eo_sI (by omega))).tr (Eo_sI (by omega))
  have w8 : ∀ k, k < 5 → mI M8 (t + 177) k = wO r dn lt k := fun k hk => by
    rw [← hM8]
    obtain rfl | rfl | rfl | rfl | rfl : k = 0 ∨ k = 1 ∨ k = 2 ∨ k = 3 ∨ k = 4 := by omega
    · rw [mI_n2 (by decide), mI_n2 (by decide), mI_e]; rfl
    · rw [mI_n2 (by decide), mI_n2 (by decide), mI_n2 (by decide), h1]; rfl
    · rw [mI_n2 (by decide), mI_n2 (by decide), mI_n2 (by decide), h2]; rfl
    · rw [mI_n2 (by decide), mI_e]; rfl
    · rw [mI_e]; rfl
  refine loop_for 2 (by decide) (fun p N => Eo (fun q => q = t + 177) A N ∧ (∀ k, k < 5 → mI N (t + 177) k = wO r dn lt k) ∧ ∀ q, q < p → mI N (t + 177) (5 + q) = wO r dn lt (5 + q) ∧ ∀ k, k < 6 → mI N (t + 177) (7 + 6 * q + k) = wO r dn lt (7 + 6 * q + k)) M8 ⟨E8, w8, fun q hq => absurd hq (by omega)⟩ (fun N rec hN => ?_) (fun p N rec hp hN hr => ?_)
  · obtain ⟨n1, n2, n3⟩ := hN
    refine So.ite (fun _ => So.ok ⟨n1, fun k hk => ?_⟩) (fun z => absurd z (ge_self 2))
    by_cases z : k < 5
    · exact n2 k z
    · by_cases y : k < 7
      · obtain rfl | rfl : k = 5 ∨ k = 6 := by omega
        · exact (n3 0 (by decide)).1
        · exact (n3 1 (by decide)).1
      · by_cases x : k < 13
        · have := (n3 0 (by decide)).2 (k - 7) (by omega)
          rw [show 7 + 6 * 0 + (k - 7) = k by omega] at this; exact this
        · have := (n3 1 (by decide)).2 (k - 13) (by omega)
          rw [show 7 + 6 * 1 + (k - 13) = k by omega] at this; exact this
  · obtain ⟨n1, n2, n3⟩ := hN
    refine So.ite (fun z => absurd z (nle hp (by decide))) (fun _ => ?_)
    have hRN : TR N (t + 1 + 1) r := hR.keep (n1 _ (by omega)) (n1 _ (by omega)) (n1 _ (by omega)) (n1 _ (by omega))
    rw [show (5 : Int32) + Int32.ofNat p = Int32.ofNat (5 + p) from nn_add 5 p, nn_ix (by omega), hRN.sc hp]
    refine So_gd (inb_nn hp (by decide)) (So.bindE (tell7 (t := t + 176) (k := 5 + p) (by omega)) ?_)
    have w5p : wO r dn lt (5 + p) = r (16 + p) := by
      obtain rfl | rfl : p = 0 ∨ p = 1 := by omega
      all_goals rfl
    refine loop_for 6 (by decide) (fun k K => Eo (fun q => q = t + 177) A K ∧ (∀ j, (j < 5 + p ∨ (7 ≤ j ∧ j < 7 + 6 * p)) → mI K (t + 177) j = mI N (t + 177) j) ∧ mI K (t + 177) (5 + p) = r (16 + p) ∧ ∀ j, j < k → mI K (t + 177) (7 + 6 * p + j) = wO r dn lt (7 + 6 * p + j)) _ ⟨n1.tr (Eo_sI rfl), fun j hj => mI_n2 (by omega), mI_e, fun j hj => absurd hj (by omega)⟩ (fun K rec2 hK => ?_) (fun k K rec2 hk hK hr2 => ?_)
    · obtain ⟨k1, k2, k3, k4⟩ := hK
      refine So.ite (fun _ => So_nm (hr _ ⟨k1, fun k hk => by rw [k2 k (by omega)]; exact n2 k hk, fun q hq => ?_⟩)) (fun z => absurd z (ge_self 6))
      by_cases z : q = p
      · subst z; exact ⟨by rw [k3, w5p], k4⟩
      · obtain ⟨a1, a2⟩ := n3 q (by omega)
        exact ⟨by rw [k2 _ (by omega)]; exact a1, fun k hk => by rw [k2 _ (by omega)]; exact a2 k hk⟩
    · obtain ⟨k1, k2, k3, k4⟩ := hK
      refine So.ite (fun z => absurd z (nle hk (by decide))) (fun _ => So_gd (inb_nn hp (by decide)) ?_)
      have hRK : TR K (t + 1 + 1) r := hR.keep (k1 _ (by omega)) (k1 _ (by omega)) (k1 _ (by omega)) (k1 _ (by omega))
      refine So.bindE ((hRK.own hp).at (show k < 52 by omega)) ?_
      rw [show (7 : Int32) + 6 * Int32.ofNat p + Int32.ofNat k = Int32.ofNat (7 + 6 * p + k) by rw [show (6 : Int32) = Int32.ofNat 6 from rfl, nn_mul, show (7 : Int32) = Int32.ofNat 7 from rfl, nn_add, nn_add]]
      refine So.bindE (tell7 (t := t + 176) (k := 7 + 6 * p + k) (by omega)) (So_nm (hr2 _ ⟨k1.tr (Eo_sI rfl), fun j hj => by rw [mI_n2 (by omega)]; exact k2 j hj, by rw [mI_n2 (by omega)]; exact k3, fun j hj => ?_⟩))
      by_cases z : j = k
      · subst z
        rw [mI_e]
        obtain rfl | rfl : p = 0 ∨ p = 1 := by omega
        · unfold wO
          rw [if_neg (by omega), if_neg (by omega), if_neg (by omega), if_neg (by omega), if_neg (by omega), if_neg (by omega), if_neg (by omega), if_pos (by omega), show 7 + 6 * 0 + j - 7 = j by omega]
        · unfold wO
          rw [if_neg (by omega), if_neg (by omega), if_neg (by omega), if_neg (by omega), if_neg (by omega), if_neg (by omega), if_neg (by omega), if_neg (by omega), show 7 + 6 * 1 + j - 13 = j by omega]
      · rw [mI_n2 (by omega)]; exact k4 j (by omega)
/-! the reference's words -/
def lvO (M : Mem) (u : Nat) (op x : Int32) : Int64 := if op = 0 then x.toInt64 else if op.toInt < 6 then mJ M (u + 19) (ix op) else if op = 6 then (mI M (u + 2) (16 + ix x)).toInt64 else (at1 (cs (fun c => decide (mI M (u + 2) (18 + c) = Int32.ofNat (ix x / 6)))) (ix x % 6)).toInt64
def NowM (u : Nat) (M : Mem) (r : Nat → Int32) (dn lt : Int32) : Prop := mI M (u + 2) = r ∧ mJ M (u + 19) 1 = (r 9).toInt64 ∧ mJ M (u + 19) 2 = dn.toInt64 ∧ mJ M (u + 19) 3 = lt.toInt64 ∧ mJ M (u + 19) 4 = (r 12).toInt64 ∧ mJ M (u + 19) 5 = (r 14).toInt64
theorem cmpO {u : Nat} {M : Mem} {r : Nat → Int32} {dn lt : Int32} (h : NowM u M r dn lt) : Cmp 1 (lvO M u) (tlO r dn lt) := by
  obtain ⟨h0, h1, h2, h3, h4, h5⟩ := h
  refine ⟨fun n _ => ?_, fun z => by omega, fun _ => ⟨fun k hk => ?_, fun n hn => ?_, fun n hn => ?_⟩⟩
  · unfold lvO; rw [if_pos rfl]
  · obtain rfl | rfl | rfl | rfl | rfl : k = 0 ∨ k = 1 ∨ k = 2 ∨ k = 3 ∨ k = 4 := by omega
    · rw [tlO_k (by decide)]; exact h1
    · rw [tlO_k (by decide)]; exact h2
    · rw [tlO_k (by decide)]; exact h3
    · rw [tlO_k (by decide)]; exact h4
    · rw [tlO_k (by decide)]; exact h5
  · rw [tlO_k (by omega)]
    unfold lvO
    rw [if_neg (by decide), if_neg (by decide), if_pos rfl, h0, nn_ix (by omega)]
    obtain rfl | rfl : n = 0 ∨ n = 1 := by omega
    all_goals rfl
  · rw [tlO_k (by omega)]
    unfold lvO
    rw [if_neg (by decide), if_neg (by decide), if_neg (by decide), h0, nn_ix (by omega)]
    congr 1
    unfold wO
    rw [if_neg (by omega), if_neg (by omega), if_neg (by omega), if_neg (by omega), if_neg (by omega), if_neg (by omega), if_neg (by omega)]
    by_cases z : n < 6
    · rw [if_pos (by omega), show n / 6 = 0 by omega, show n % 6 = n by omega, show 7 + n - 7 = n by omega]
    · rw [if_neg (by omega), show n / 6 = 1 by omega, show n % 6 = n - 6 by omega, show 7 + n - 13 = n - 6 by omega]
/-- what working out changes -/
def SoE (u : Nat) (M N : Mem) : Prop := Eo (fun q => q = u ∨ q = u + 20) M N ∧ ∀ k, k ≠ 38 → k ≠ 65 → mI N u k = mI M u k
theorem SoE.rf {u : Nat} {M : Mem} : SoE u M M := ⟨Eo.rf, fun _ _ _ => rfl⟩
theorem SoE.tr {u : Nat} {M N K : Mem} (h : SoE u M N) (h2 : SoE u N K) : SoE u M K := ⟨h.1.tr h2.1, fun k a b => (h2.2 k a b).trans (h.2 k a b)⟩
theorem NowM.so {u : Nat} {M N : Mem} {r : Nat → Int32} {dn lt : Int32} (h : NowM u M r dn lt) (e : SoE u M N) : NowM u N r dn lt := by
  unfold NowM
  rw [(e.1 (u + 2) (by omega)).1, (e.1 (u + 19) (by omega)).2.1]; exact h
theorem sumOf_r {u at' b1 b2 : Nat} {M : Mem} {r : Nat → Int32} {dn lt : Int32} {g : Den} (ha : at' + 1 < 96) (h20 : mI M u 20 = 0) (h65 : mI M u 65 = 0) (hN : NowM u M r dn lt) (c1 : mI M (u + 40) at' = Int32.ofNat b1) (c2 : mI M (u + 40) (at' + 1) = Int32.ofNat b2) (hb : b2 ≤ 400) (hs : sgR 1 (mI M (u + 11)) (mI M (u + 12)) b1 b2 (some g)) : So (FX12_sumOf u (Int32.ofNat at') M) (fun x => SoE u M x.2 ∧ ((g (tlO r dn lt) = none ∧ mI x.2 u 65 = 1) ∨ ∃ v, g (tlO r dn lt) = some v ∧ mI x.2 u 65 = 0 ∧ x.1 = v.toInt32)) := by
  have hne : b1 ≠ b2 := by
    rcases hs with ⟨z, _⟩ | ⟨g', X, z, e, _, hd⟩
    · cases z
    · have := DR_ne hd (by decide) (cmpO hN); omega
  have hle := hs.le
  unfold FX12_sumOf
  refine So_jn0 ?_
  rw [h65, if_neg (by decide), s1, nn_ix (by omega), nn_ix (by omega), c1, c2]
  refine So_gd (inb_nn (by omega) (by decide)) (So_gd (inb_nn (by omega) (by decide)) ?_)
  rw [if_pos (fun z => hne ((nn_eq (by omega) (by omega)).mp z))]
  refine So_nm (So_gd (inb_nn (by omega) (by decide)) (So_gd (inb_nn (by omega) (by decide)) ?_))
  rw [mI_n1 (by omega), mI_n1 (by omega), c1, c2]
  have hN7 : NowM u (sI M u 20 1) r dn lt := by
    unfold NowM
    rw [(Ea_sI (M := M) (a := u) (b := u + 2) (k := 20) (v := 1) (by omega)).1]; exact hN
  have rc : RcS u (sI M u 20 1) 1 b1 b2 (mI M (u + 11)) (mI M (u + 12)) (lvO (sI M u 20 1) u) := by
    refine ⟨hb, Or.inr ⟨rfl, mI_e, fun k _ _ => ⟨by rw [mI_n1 (by omega)], by rw [mI_n1 (by omega)]⟩, fun op x _ _ => rfl⟩⟩
  refine So.bind (reck_seg rc hs (cmpO hN7)) (fun M12 h12 => So_nm ?_)
  obtain ⟨e1, e2⟩ := h12
  have f13 : ∀ k, k ≠ 20 → mI (sI M12 u 20 0) u k = mI M12 u k := fun k hk => mI_n2 hk
  rw [f13 38 (by decide)]
  have hso : SoE u M (sI (sI M12 u 20 0) u 65 (mI M12 u 38)) := by
    refine ⟨(((Eo_sI (Or.inl rfl)).tr e1.1).tr (Eo_sI (Or.inl rfl))).tr (Eo_sI (Or.inl rfl)), fun k k38 k65 => ?_⟩
    rw [mI_n2 k65]
    by_cases z : k = 20
    · rw [z, mI_e, h20]
    · rw [mI_n2 z, e1.2.1 k k38, mI_n2 z]
  refine So_gd (by rcases e2 with ⟨_, z⟩ | ⟨_, _, z, _⟩ <;> rw [z] <;> rfl) (So_nm (So.ok ⟨hso, ?_⟩))
  rcases e2 with ⟨z1, z2⟩ | ⟨v, z1, z2, z3⟩
  · exact Or.inl ⟨z1, by show mI (sI (sI M12 u 20 0) u 65 _) u 65 = 1; rw [mI_e]; exact z2⟩
  · refine Or.inr ⟨v, z1, by show mI (sI (sI M12 u 20 0) u 65 _) u 65 = 0; rw [mI_e]; exact z2, ?_⟩
    show (mJ (sI (sI M12 u 20 0) u 65 _) u 39).toInt32 = _
    rw [mJ_sI, mJ_sI, z3]
/-- no sum, or one was broken -/
theorem sumOf_no {u at' : Nat} {M : Mem} (ha : at' + 1 < 96) (h : mI M u 65 ≠ 0 ∨ mI M (u + 40) at' = mI M (u + 40) (at' + 1)) : FX12_sumOf u (Int32.ofNat at') M = some (-1, M) := by
  unfold FX12_sumOf
  rw [jb, s1, nn_ix (by omega), nn_ix (by omega)]
  by_cases z : mI M u 65 = 0
  · have h := h.resolve_left (fun w => w z)
    rw [if_neg (fun w => w z), gp (inb_nn (by omega) (by decide)), gp (inb_nn (by omega) (by decide)), if_neg (fun w => w h)]
  · rw [if_pos z]
