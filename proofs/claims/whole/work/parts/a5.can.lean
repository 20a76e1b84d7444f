/-! ===== who can play what ===== -/
theorem bdd_rg {v : Int64} {lo hi : Int32} (h : lo.toInt ≤ hi.toInt) : lo.toInt ≤ (bdd v lo hi).toInt ∧ (bdd v lo hi).toInt ≤ hi.toInt := by
  unfold bdd
  have l1 := lo.le_toInt
  have l2 := hi.toInt_lt
  by_cases c1 : lo.toInt ≤ v.toInt
  · rw [if_pos c1]
    by_cases c2 : v.toInt ≤ hi.toInt
    · rw [if_pos c2, Int64.toInt_toInt32, i_bm (by omega) (by omega)]; omega
    · rw [if_neg c2]; omega
  · rw [if_neg c1]; omega
theorem vOf_rg {I : Nat → CI} {n c : Nat} {deal mood : Int32} : 1 ≤ (vOf I n deal mood c).toInt ∧ (vOf I n deal mood c).toInt ≤ 31 := bdd_rg (lo := 1) (hi := 31) (by decide)
theorem cOf_rg {I : Nat → CI} {n kind : Nat} {deal mood a b c d e : Int32} : 0 ≤ (cOf I n deal mood kind a b c d e).toInt ∧ (cOf I n deal mood kind a b c d e).toInt ≤ 99 := bdd_rg (lo := 0) (hi := 99) (by decide)
def canP (V : Nat → Int32) (Bd : Nat → Bool) (r : Nat → Int32) (p : Int32) (c : Nat) : Bool := decide (r (18 + c) = p) && decide (r (70 + c) = 0) && !Bd c && decide ((r 12).toInt + (V c).toInt ≤ 31)
def tnP (V : Nat → Int32) (Bd : Nat → Bool) (r : Nat → Int32) (one other : Int32) : Int32 := if cs (canP V Bd r one) = [] then (if cs (canP V Bd r other) = [] then -1 else other) else one
theorem cs_mem {P : Nat → Bool} {c : Nat} : c ∈ cs P ↔ c < 52 ∧ P c = true := by
  unfold cs
  rw [List.mem_filter, List.mem_range]
theorem Bs.nil {x : Int64} {P : Nat → Bool} (h : Bs x P) : x = 0 ↔ cs P = [] := by rw [← bl_nil, Bs_bl h]
theorem cs_sub {P R : Nat → Bool} (h : ∀ c, c < 52 → P c = true → R c = true) : (cs P).length ≤ (cs R).length := by
  unfold cs
  rw [← List.countP_eq_length_filter, ← List.countP_eq_length_filter]
  exact List.countP_mono_left (fun c hc => h c (List.mem_range.mp hc))
theorem TV.six {r : Nat → Int32} (h : TV r) {p : Nat} (hp : p < 2) : (cs (fun c => decide (r (18 + c) = Int32.ofNat p))).length ≤ 6 := by
  obtain ⟨_, h2, _, _, _, _, _, _, _, _, _, _, _, _, h15, _, _, h18, h19⟩ := h
  rcases h2 with z | z | z | z
  · rw [cs_nil (fun c hc => ?_)]
    · exact Nat.zero_le _
    · rw [(h15 z).1 c hc]
      obtain rfl | rfl : p = 0 ∨ p = 1 := by omega
      all_goals decide
  · obtain ⟨a1, a2, a3, a4, _⟩ := h18 z
    obtain rfl | rfl : p = 0 ∨ p = 1 := by omega
    · exact a2
    · exact a4
  · obtain ⟨a1, a2, _⟩ := h19 (Or.inl z)
    obtain rfl | rfl : p = 0 ∨ p = 1 := by omega
    · exact Nat.le_trans (Nat.le_of_eq a1) (by decide)
    · exact Nat.le_trans (Nat.le_of_eq a2) (by decide)
  · obtain ⟨a1, a2, _⟩ := h19 (Or.inr z)
    obtain rfl | rfl : p = 0 ∨ p = 1 := by omega
    · exact Nat.le_trans (Nat.le_of_eq a1) (by decide)
    · exact Nat.le_trans (Nat.le_of_eq a2) (by decide)
theorem handOf_c {b p : Nat} {A : Mem} (hp : p < 2) : FX8_handOf b (Int32.ofNat p) A = some (mJ A (b + 1) p) := by
  unfold FX8_handOf
  obtain rfl | rfl : p = 0 ∨ p = 1 := by omega
  all_goals rfl
theorem drop_cons {L : List Nat} {k : Nat} (h : k < L.length) : L.drop k = L.getD k 0 :: L.drop (k + 1) := by
  rw [List.drop_eq_getElem_cons h, List.getD_eq_getElem?_getD, List.getElem?_eq_getElem h]; rfl
theorem getD_mem {L : List Nat} {k : Nat} (h : k < L.length) : L.getD k 0 ∈ L := by
  rw [List.getD_eq_getElem?_getD, List.getElem?_eq_getElem h]; exact List.getElem_mem h
theorem take_mem {L : List Nat} {k c : Nat} (h : k < L.length) : c ∈ L.take (k + 1) ↔ c ∈ L.take k ∨ c = L.getD k 0 := by
  rw [List.take_succ_eq_append_getElem h, List.mem_append, List.mem_singleton, List.getD_eq_getElem?_getD, List.getElem?_eq_getElem h]; rfl
/-- what the class finds -/
theorem playable_c {b w p n : Nat} {I : Nat → CI} {deal mood : Int32} {A : Mem} {r : Nat → Int32} (hR : TR A b r) (hV : TV r) (hp : p < 2) (hW : WTab A w I n deal mood) : So (FX8_playable b (Int32.ofNat p) w A) (fun x => Bs x (canP (vOf I n deal mood) (bOf I n deal mood) r (Int32.ofNat p))) := by
  unfold FX8_playable
  refine So.bindE (handOf_c hp) (So_nm ?_)
  have hB := ((hR.own hp).andnot hR.2.2.2.1).andnot hW.2.1
  generalize hP : (fun c => ((decide (r (18 + c) = Int32.ofNat p) && !decide (r (70 + c) = 1)) && !bOf I n deal mood c)) = P at hB
  have e9 : mI A b 9 = r 12 := hR.2.2.2.2.2.2.2.2.1
  have h12 : 0 ≤ (r 12).toInt ∧ (r 12).toInt ≤ 31 := hV.2.2.2.2.1
  have hl : (cs P).length ≤ 6 := Nat.le_trans (cs_sub (R := fun c => decide (r (18 + c) = Int32.ofNat p)) (fun c _ h => by
    rw [← hP] at h
    simp only [Bool.and_eq_true] at h
    exact h.1.1)) (hV.six hp)
  have hin : ∀ c, c ∈ cs P ↔ c < 52 ∧ P c = true := fun c => cs_mem
  generalize hL : cs P = L at hl hin
  have fin : ∀ k v3, L.length ≤ k → Bs v3 (fun c => decide (c ∈ L.take k) && decide ((r 12).toInt + (vOf I n deal mood c).toInt ≤ 31)) → Bs v3 (canP (vOf I n deal mood) (bOf I n deal mood) r (Int32.ofNat p)) := fun k v3 hk h => h.congr (fun c hc => by
    rw [List.take_of_length_le hk]
    unfold canP
    have : decide (c ∈ L) = P c := by
      by_cases z : P c = true
      · rw [z, decide_eq_true ((hin c).mpr ⟨hc, z⟩)]
      · rw [Bool.not_eq_true] at z
        rw [z, decide_eq_false (fun y => by rw [((hin c).mp y).2] at z; cases z)]
    rw [this]
    have hPc : P c = ((decide (r (18 + c) = Int32.ofNat p) && !decide (r (70 + c) = 1)) && !bOf I n deal mood c) := by rw [← hP]
    rw [hPc]
    have : (!decide (r (70 + c) = 1)) = decide (r (70 + c) = 0) := by
      rcases hV.2.2.2.2.2.2.2.2.2.2.2.2.1 c hc with z | z <;> rw [z] <;> rfl
    rw [this])
  refine So_wl3 (fun v3 v4 v5 => ∃ k, k ≤ 6 ∧ v5 = Int32.ofNat k ∧ bl v4 = L.drop k ∧ Bs v3 (fun c => decide (c ∈ L.take k) && decide ((r 12).toInt + (vOf I n deal mood c).toInt ≤ 31))) (fun _ _ v5 => 7 - ix v5) ?_ fuel 0 _ 0 ⟨0, by omega, rfl, by rw [Bs_bl hB, hL]; rfl, Bs.zero.congr (fun c _ => by simp)⟩ (by unfold fuel; omega)
  rintro v3 v4 v5 rec ⟨k, hk, rfl, h4, h3⟩ hr
  refine So_jn0 (So.ite (fun z => ?_) (fun z => So.ite (fun y => ?_) (fun y => ?_)))
  · have z : 6 ≤ k := (nn_le (a := 6) (by omega) (by omega)).mp z
    exact So.ok (fin k _ (by omega) h3)
  · rw [y, bl_zero] at h4
    exact So.ok (fin k _ (by have := congrArg List.length h4; rw [List.length_nil, List.length_drop] at this; omega) h3)
  · have z : ¬ 6 ≤ k := fun q => z ((nn_le (a := 6) (by omega) (by omega)).mpr q)
    have hkL : k < L.length := by
      apply Classical.byContradiction
      intro q
      exact y (bl_nil.mp (by rw [h4]; exact List.drop_eq_nil_of_le (by omega)))
    have hm := (hin _).mp (getD_mem hkL)
    rw [drop_cons hkL] at h4
    refine So.bindE (v := Int32.ofNat (L.getD k 0)) ?_ (So_nm ?_)
    · rw [lowest_eq, h4]; rfl
    generalize hg : L.getD k 0 = g at hm h4
    refine So.bindE (valueOf_c hm.1) ?_
    rw [hW.1 g hm.1, e9]
    have hv := vOf_rg (I := I) (n := n) (c := g) (deal := deal) (mood := mood)
    have hs : (r 12 + vOf I n deal mood g).toInt = (r 12).toInt + (vOf I n deal mood g).toInt := i_add (by omega) (by omega)
    refine So_jn1R (fun v => Bs v (fun c => decide (c ∈ L.take (k + 1)) && decide ((r 12).toInt + (vOf I n deal mood c).toInt ≤ 31))) (fun v13 h13 => So_nm ?_) (fun j hj => ?_)
    · rw [s1]
      exact hr _ _ _ ⟨k + 1, by omega, rfl, by rw [clear_eq, h4]; rfl, h13⟩ (by rw [nn_ix (by omega), nn_ix (by omega)]; omega)
    · have e31 : (31 < r 12 + vOf I n deal mood g) ↔ ¬ ((r 12).toInt + (vOf I n deal mood g).toInt ≤ 31) := by
        rw [Int32.lt_iff_toInt_lt, hs, show (31 : Int32).toInt = 31 from rfl]; omega
      refine So.ite (fun q => hj _ (h3.congr (fun c hc => ?_))) (fun q => So.bindE (bit_nn hm.1) (So_nm (hj _ ((h3.or (Bs.one hm.1)).congr (fun c hc => ?_)))))
      · by_cases w : c = g
        · rw [w, decide_eq_false (e31.mp q), Bool.and_false, Bool.and_false]
        · have : decide (c ∈ L.take (k + 1)) = decide (c ∈ L.take k) := decide_eq_decide.mpr (by rw [take_mem hkL, hg]; exact ⟨fun a => a.resolve_right w, Or.inl⟩)
          rw [this]
      · have q : (r 12).toInt + (vOf I n deal mood g).toInt ≤ 31 := Classical.not_not.mp (fun a => q (e31.mpr a))
        by_cases w : c = g
        · have : c ∈ L.take (k + 1) := by rw [take_mem hkL, hg]; exact Or.inr w
          rw [decide_eq_true w, Bool.or_true, decide_eq_true this, w, decide_eq_true q]; rfl
        · have : decide (c ∈ L.take (k + 1)) = decide (c ∈ L.take k) := decide_eq_decide.mpr (by rw [take_mem hkL, hg]; exact ⟨fun a => a.resolve_right w, Or.inl⟩)
          rw [this, decide_eq_false w, Bool.or_false]
theorem one_minus {p : Nat} (hp : p < 2) : (1 : Int32) - Int32.ofNat p = Int32.ofNat (1 - p) := nn_sub (a := 1) (by omega) (by omega)
theorem firstWhoCan_c {b w p n : Nat} {I : Nat → CI} {deal mood : Int32} {A : Mem} {r : Nat → Int32} (hR : TR A b r) (hV : TV r) (hp : p < 2) (hW : WTab A w I n deal mood) : FX8_firstWhoCan b (Int32.ofNat p) w A = some (tnP (vOf I n deal mood) (bOf I n deal mood) r (Int32.ofNat p) (Int32.ofNat (1 - p))) := by
  unfold FX8_firstWhoCan tnP
  obtain ⟨x, x1, x2⟩ := playable_c hR hV hp hW
  obtain ⟨y, y1, y2⟩ := playable_c hR hV (show 1 - p < 2 by omega) hW
  rw [ob x1]
  by_cases z : x = 0
  · rw [if_pos z, if_pos (x2.nil.mp z), one_minus hp, ob y1, jb1]
    by_cases q : y = 0
    · rw [if_pos q, if_pos (y2.nil.mp q)]
    · rw [if_neg q, if_neg (fun a => q (y2.nil.mpr a))]
  · rw [if_neg z, if_neg (fun a => z (x2.nil.mpr a))]
/-! the reference's -/
def RL (u n : Nat) (I : Nat → CI) (deal mood : Int32) (B : Mem) : Prop := LwI (mI B (u + 2)) (mI B (u + 2) 2) n I ∧ mI B u 20 = 0 ∧ mI B (u + 2) 8 = deal ∧ mI B (u + 2) 6 = mood
theorem RL.keep {u n : Nat} {I : Nat → CI} {deal mood : Int32} {B B' : Mem} (h : RL u n I deal mood B) (e : ∀ k, k < 9 ∨ 194 ≤ k → k < 5594 → mI B' (u + 2) k = mI B (u + 2) k) (e20 : mI B' u 20 = mI B u 20) : RL u n I deal mood B' := by
  obtain ⟨h1, h2, h3, h4⟩ := h
  refine ⟨?_, by rw [e20]; exact h2, by rw [e 8 (by omega) (by omega)]; exact h3, by rw [e 6 (by omega) (by omega)]; exact h4⟩
  rw [e 2 (by omega) (by omega)]
  rcases h1 with z | ⟨i, len, a1, a2, a3⟩
  · exact Or.inl z
  · exact Or.inr ⟨i, len, a1, a2, a3.row (fun k x y => e k (by omega) (by have := a3.2.2.1; omega))⟩
theorem RL.tl {u n : Nat} {I : Nat → CI} {deal mood : Int32} {B B' : Mem} (h : RL u n I deal mood B) (e : TlE u B B') : RL u n I deal mood B' := h.keep (fun k _ _ => by rw [(e.1 (u + 2) (by omega)).1]) (e.2.1 20 (by decide) (by decide))
theorem TlE.row {u : Nat} {M N : Mem} (h : TlE u M N) : mI N (u + 2) = mI M (u + 2) := (h.1 (u + 2) (by omega)).1
theorem canPlay_r {u n c : Nat} {I : Nat → CI} {deal mood p : Int32} {B : Mem} (h : RL u n I deal mood B) (h12 : 0 ≤ (mI B (u + 2) 12).toInt ∧ (mI B (u + 2) 12).toInt ≤ 31) (hc : c < 52) : So (FX12_canPlay u (Int32.ofNat c) p B) (fun x => TlE u B x.2 ∧ x.1 = if canP (vOf I n deal mood) (bOf I n deal mood) (mI B (u + 2)) p c = true then 1 else 0) := by
  obtain ⟨h1, h2, h3, h4⟩ := id h
  unfold FX12_canPlay
  rw [show (18 : Int32) + Int32.ofNat c = Int32.ofNat (18 + c) from nn_add 18 c, show (70 : Int32) + Int32.ofNat c = Int32.ofNat (70 + c) from nn_add 70 c, nn_ix (by omega), nn_ix (by omega)]
  refine So_gd (inb_nn (by omega) (by decide)) (So_jn2R (fun v N => TlE u B N ∧ v = if canP (vOf I n deal mood) (bOf I n deal mood) (mI B (u + 2)) p c = true then 1 else 0) (fun v N hv => So_gd (by rw [hv.2]; split <;> rfl) (So.ok hv)) (fun j5 h5 => So_jn1R (fun N => TlE u B N ∧ canP (vOf I n deal mood) (bOf I n deal mood) (mI B (u + 2)) p c = false) (fun N hN => h5 _ _ ⟨hN.1, by rw [hN.2]; rfl⟩) (fun j9 h9 => ?_)))
  refine So.ite (fun z => h9 _ ⟨TlE.rf, by unfold canP; rw [decide_eq_false z]; rfl⟩) (fun z => ?_)
  have z := Classical.not_not.mp z
  refine So_gd (inb_nn (by omega) (by decide)) (So.ite (fun y => h9 _ ⟨TlE.rf, by unfold canP; rw [decide_eq_false y, Bool.and_false]; rfl⟩) (fun y => ?_))
  have y := Classical.not_not.mp y
  refine So_bdM (valueOf_r h1 h2 hc) (fun v N hN => ?_)
  obtain ⟨t1, t2⟩ := hN
  have t1 : TlE u B N := t1
  have t2 : v = vOf I n (mI B (u + 2) 8) (mI B (u + 2) 6) c := t2
  rw [h3, h4] at t2
  have hv := vOf_rg (I := I) (n := n) (c := c) (deal := deal) (mood := mood)
  rw [t2, t1.row]
  have e31 : (31 < vOf I n deal mood c + mI B (u + 2) 12) ↔ ¬ ((mI B (u + 2) 12).toInt + (vOf I n deal mood c).toInt ≤ 31) := by
    rw [Int32.lt_iff_toInt_lt, i_add (by omega) (by omega), show (31 : Int32).toInt = 31 from rfl]; omega
  refine So.ite (fun w => h9 _ ⟨t1, by unfold canP; rw [decide_eq_false (e31.mp w), Bool.and_false]⟩) (fun w => ?_)
  have w : (mI B (u + 2) 12).toInt + (vOf I n deal mood c).toInt ≤ 31 := Classical.not_not.mp (fun a => w (e31.mpr a))
  obtain ⟨g1, g2, g3, g4⟩ := h.tl t1
  refine So_bdM (isBarred_r g1 g2 hc) (fun v2 N2 hN2 => ?_)
  obtain ⟨q1, q2⟩ := hN2
  have q1 : TlE u N N2 := q1
  have q2 : v2 = if bOf I n (mI N (u + 2) 8) (mI N (u + 2) 6) c = true then 1 else 0 := q2
  rw [g3, g4] at q2
  by_cases x : bOf I n deal mood c = true
  · rw [q2, if_pos x, if_pos (by decide)]
    exact h9 _ ⟨t1.tr q1, by unfold canP; rw [x]; simp⟩
  · rw [q2, if_neg x, if_neg (by decide)]
    rw [Bool.not_eq_true] at x
    exact h5 _ _ ⟨t1.tr q1, by unfold canP; rw [x, decide_eq_true z, decide_eq_true y, decide_eq_true w]; rfl⟩
theorem canAny_r {u n : Nat} {I : Nat → CI} {deal mood p : Int32} {B : Mem} (h : RL u n I deal mood B) (h12 : 0 ≤ (mI B (u + 2) 12).toInt ∧ (mI B (u + 2) 12).toInt ≤ 31) : So (FX12_canAny u p B) (fun x => TlE u B x.2 ∧ x.1 = if cs (canP (vOf I n deal mood) (bOf I n deal mood) (mI B (u + 2)) p) = [] then 0 else 1) := by
  unfold FX12_canAny
  generalize hP : canP (vOf I n deal mood) (bOf I n deal mood) (mI B (u + 2)) p = P
  refine So_wl3 (fun v1 v2 N => ∃ i, i ≤ 52 ∧ v2 = Int32.ofNat i ∧ TlE u B N ∧ ((v1 = 0 ∧ ∀ c, c < i → P c = false) ∨ (v1 = 1 ∧ ∃ c, c < 52 ∧ P c = true))) (fun _ v2 _ => 52 - ix v2) ?_ fuel 0 0 B ⟨0, by omega, rfl, TlE.rf, Or.inl ⟨rfl, fun c hc => absurd hc (by omega)⟩⟩ (by unfold fuel; omega)
  rintro v1 v2 N rec ⟨i, hi, rfl, hN, hv⟩ hr
  have done : (v1 = 0 → i = 52) → So (gd (isB v1) (some (v1, N))) (fun x => TlE u B x.2 ∧ x.1 = if cs P = [] then 0 else 1) := fun he => by
    rcases hv with ⟨z, y⟩ | ⟨z, c, y1, y2⟩
    · subst z
      refine So_gd rfl (So.ok ⟨hN, ?_⟩)
      rw [if_pos (cs_nil (fun c hc => y c (by rw [he rfl]; exact hc)))]
    · subst z
      refine So_gd rfl (So.ok ⟨hN, ?_⟩)
      rw [if_neg (fun a => ?_)]
      have : c ∈ cs P := cs_mem.mpr ⟨y1, y2⟩
      rw [a] at this
      cases this
  refine So_jn0 (So.ite (fun z => ?_) (fun z => So.ite (fun y => ?_) (fun y => ?_)))
  · exact done (fun _ => by have := (nn_le (a := 52) (by omega) (by omega)).mp z; omega)
  · exact done (fun a => absurd a y)
  · have z : i < 52 := by
      apply Classical.byContradiction
      intro a
      exact z ((nn_le (a := 52) (by omega) (by omega)).mpr (by omega))
    have y := Classical.not_not.mp y
    refine So_bdM (canPlay_r (h.tl hN) (by rw [hN.row]; exact h12) z) (fun v N2 hN2 => So_nm ?_)
    obtain ⟨q1, q2⟩ := hN2
    have q1 : TlE u N N2 := q1
    have q2 : v = if canP (vOf I n deal mood) (bOf I n deal mood) (mI N (u + 2)) p i = true then 1 else 0 := q2
    rw [hN.row, hP] at q2
    rw [s1]
    refine hr _ _ _ ⟨i + 1, by omega, rfl, hN.tr q1, ?_⟩ (by rw [nn_ix (by omega), nn_ix (by omega)]; omega)
    rcases hv with ⟨_, b⟩ | ⟨a, _⟩
    · by_cases x : P i = true
      · rw [if_pos x] at q2; exact Or.inr ⟨q2, i, z, x⟩
      · rw [if_neg x] at q2
        refine Or.inl ⟨q2, fun c hc => ?_⟩
        by_cases w : c = i
        · rw [w]; exact Bool.not_eq_true _ ▸ x
        · exact b c (by omega)
    · rw [y] at a; exact absurd a (by decide)
theorem turnTo_r {u n : Nat} {I : Nat → CI} {deal mood p q : Int32} {B : Mem} (h : RL u n I deal mood B) (h12 : 0 ≤ (mI B (u + 2) 12).toInt ∧ (mI B (u + 2) 12).toInt ≤ 31) : So (FX12_turnTo u p q B) (fun N => ∃ B', TlE u B B' ∧ N = sI B' (u + 2) 14 (tnP (vOf I n deal mood) (bOf I n deal mood) (mI B (u + 2)) p q)) := by
  unfold FX12_turnTo tnP
  refine So_bdM (canAny_r h h12) (fun v N hN => So_jn2R (fun v' N' => TlE u B N' ∧ v' = _) (fun v' N' hN' => So_nm (So.ok ⟨N', hN'.1, by rw [hN'.2]⟩)) (fun j6 h6 => ?_))
  obtain ⟨q1, q2⟩ := hN
  have q1 : TlE u B N := q1
  have q2 : v = _ := q2
  by_cases z : cs (canP (vOf I n deal mood) (bOf I n deal mood) (mI B (u + 2)) p) = []
  · rw [if_pos z] at q2
    rw [q2, if_pos rfl]
    refine So_bdM (canAny_r (h.tl q1) (by rw [q1.row]; exact h12)) (fun v2 N2 hN2 => ?_)
    obtain ⟨w1, w2⟩ := hN2
    have w1 : TlE u N N2 := w1
    have w2 : v2 = _ := w2
    rw [q1.row] at w2
    by_cases y : cs (canP (vOf I n deal mood) (bOf I n deal mood) (mI B (u + 2)) q) = []
    · rw [if_pos y] at w2
      rw [w2, if_pos rfl]
      exact h6 _ _ ⟨q1.tr w1, by rw [if_pos z, if_pos y]⟩
    · rw [if_neg y] at w2
      rw [w2, if_neg (by decide)]
      exact h6 _ _ ⟨q1.tr w1, by rw [if_pos z, if_neg y]⟩
  · rw [if_neg z] at q2
    rw [q2, if_neg (by decide)]
    exact h6 _ _ ⟨q1, by rw [if_neg z]⟩
