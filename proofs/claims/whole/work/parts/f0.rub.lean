/-! ===== a rubber, as a function ===== -/
def dlR (r : Nat → Int32) (s d : Nat) : Nat → Int32 := fun k => if k = 8 then r 8 + 1 else if k = 9 then 1 else if k = 10 then Int32.ofNat d else if k = 11 then Int32.ofNat (dlC s 12) else if k = 12 then 0 else if k = 13 then 0 else if k = 14 then -1 else if k = 15 then -1 else if 18 ≤ k ∧ k < 70 then dlO s d 13 (k - 18) else if 70 ≤ k ∧ k < 122 then 0 else r k
theorem dlR_c {r : Nat → Int32} {s d c : Nat} (hc : c < 52) : dlR r s d (18 + c) = dlO s d 13 c ∧ dlR r s d (70 + c) = 0 := by
  unfold dlR
  constructor
  · rw [if_neg (by omega), if_neg (by omega), if_neg (by omega), if_neg (by omega), if_neg (by omega), if_neg (by omega), if_neg (by omega), if_neg (by omega), if_pos (by omega), show 18 + c - 18 = c by omega]
  · rw [if_neg (by omega), if_neg (by omega), if_neg (by omega), if_neg (by omega), if_neg (by omega), if_neg (by omega), if_neg (by omega), if_neg (by omega), if_neg (by omega), if_pos (by omega)]
theorem dlR_o {r : Nat → Int32} {s d k : Nat} (h : k < 8 ∨ k = 16 ∨ k = 17 ∨ 122 ≤ k) : dlR r s d k = r k := by
  unfold dlR
  rw [if_neg (by omega), if_neg (by omega), if_neg (by omega), if_neg (by omega), if_neg (by omega), if_neg (by omega), if_neg (by omega), if_neg (by omega), if_neg (by omega), if_neg (by omega)]
theorem dlR_row {u s d : Nat} {M N : Mem} (h : DiE u s d M N) : mI N (u + 2) = dlR (mI M (u + 2)) s d := by
  obtain ⟨_, _, hc, e8, e9, e10, e11, e12, e13, e14, e15, eo⟩ := h
  funext k
  by_cases z : k < 8 ∨ k = 16 ∨ k = 17 ∨ 122 ≤ k
  · rw [dlR_o z, eo k z]
  · by_cases y : 18 ≤ k
    · by_cases x : k < 70
      · obtain ⟨c, rfl⟩ : ∃ c, k = 18 + c := ⟨k - 18, by omega⟩
        rw [(hc c (by omega)).1, (dlR_c (by omega)).1]
      · obtain ⟨c, rfl⟩ : ∃ c, k = 70 + c := ⟨k - 70, by omega⟩
        rw [(hc c (by omega)).2, (dlR_c (by omega)).2]
    · obtain rfl | rfl | rfl | rfl | rfl | rfl | rfl | rfl : k = 8 ∨ k = 9 ∨ k = 10 ∨ k = 11 ∨ k = 12 ∨ k = 13 ∨ k = 14 ∨ k = 15 := by omega
      · exact e8
      · exact e9
      · exact e10
      · exact e11
      · exact e12
      · exact e13
      · exact e14
      · exact e15
theorem dlR_fk {A : Mem} {r : Nat → Int32} {s d : Nat} : DiE 0 s d (aI A 2 r) (aI A 2 (dlR r s d)) := by
  have e : ∀ (g : Nat → Int32) k, mI (aI A 2 g) (0 + 2) k = g k := fun g k => by rw [mI_aI, if_pos rfl]
  refine ⟨fun q hq => ⟨?_, rfl, rfl, rfl⟩, ?_, fun c hc => ?_, ?_, ?_, ?_, ?_, ?_, ?_, ?_, ?_, fun k hk => ?_⟩
  · funext k; rw [mI_aI, mI_aI, if_neg (by omega), if_neg (by omega)]
  · funext k; rw [mI_aI, mI_aI, if_neg (by decide), if_neg (by decide)]
  · rw [e, e]; exact dlR_c hc
  · rw [e, e]; rfl
  · rw [e]; rfl
  · rw [e]; rfl
  · rw [e]; rfl
  · rw [e]; rfl
  · rw [e]; rfl
  · rw [e]; rfl
  · rw [e]; rfl
  · rw [e, e]; exact dlR_o hk
theorem dlR_TV {r : Nat → Int32} {s d : Nat} (hd : d < 2) (h : TV r) (h8 : (r 8).toInt < 999) : TV (dlR r s d) := by
  have e : ∀ (g : Nat → Int32), mI (aI Z0 2 g) (0 + 2) = g := fun g => by funext k; rw [mI_aI, if_pos rfl]
  have := deal_TV (u := 0) (s := s) (d := d) (M := aI Z0 2 r) (N := aI Z0 2 (dlR r s d)) hd dlR_fk (by rw [e]; exact h) (by rw [e]; exact h8)
  rw [e] at this; exact this
theorem dlR_TR {b s d : Nat} {A A' : Mem} {r : Nat → Int32} (hd : d < 2) (hC : DoE b s d A A') (hT : TR A b r) : TR A' b (dlR r s d) := by
  have e : ∀ (g : Nat → Int32), mI (aI Z0 2 g) (0 + 2) = g := fun g => by funext k; rw [mI_aI, if_pos rfl]
  have := deal_TR (u := 0) (B := aI Z0 2 r) (B' := aI Z0 2 (dlR r s d)) hd hC dlR_fk (by rw [e]; exact hT)
  rw [e] at this; exact this
theorem dlR_n {r : Nat → Int32} {s d p : Nat} (hd : d < 2) (hp : p < 2) : nAt (dlR r s d) (Int32.ofNat p) = 6 := by
  unfold nAt
  rw [show cs (fun c => decide (dlR r s d (18 + c) = Int32.ofNat p)) = cs (fun c => decide (dlO s d 13 c = Int32.ofNat p)) from cs_cg (fun c h => by rw [(dlR_c h).1])]
  exact dlO13_cnt hd hp
/-! to lay the highest -/
def own (r : Nat → Int32) (p : Nat) : Nat → Bool := fun c => decide (r (18 + c) = Int32.ofNat p)
def tpC (r : Nat → Int32) (p : Nat) : Nat := fC (own r p) (nAt r (Int32.ofNat p) - 1)
def ly1 (V : Nat → Int32) (Bd : Nat → Bool) (r : Nat → Int32) (p : Nat) : Nat → Int32 := lyP V Bd r (tpC r p)
theorem own_n {r : Nat → Int32} {p : Nat} : (cs (own r p)).length = nAt r (Int32.ofNat p) := rfl
theorem tpC_in {r : Nat → Int32} {p : Nat} (h : 1 ≤ nAt r (Int32.ofNat p)) : tpC r p < 52 ∧ r (18 + tpC r p) = Int32.ofNat p := by
  obtain ⟨a, b⟩ := fC_mem (P := own r p) (k := nAt r (Int32.ofNat p) - 1) (by rw [own_n]; omega)
  exact ⟨a, of_decide_eq_true b⟩
theorem lyP_mid {V : Nat → Int32} {Bd : Nat → Bool} {r : Nat → Int32} {c k : Nat} (hd : r 10 = 0 ∨ r 10 = 1) (hc : c < 52) (hk : 18 ≤ k) (hk2 : k < 70) : lyP V Bd r c k = ru r (18 + c) 2 k := by
  have h10 : lyB (ru r (18 + c) 2) 10 = r 10 := by rw [lyB_at (by decide) (by decide) (by decide) (by decide) (by decide), ru_n (by omega)]
  unfold lyP
  split
  · unfold lyD
    rw [ru_n (by omega), lyC_at (by omega) (by omega) (by rw [h10]; exact hd), lyB_at (by omega) (by omega) (by omega) (by omega) (by omega)]
  · rfl
theorem nAt_lyP {V : Nat → Int32} {Bd : Nat → Bool} {r : Nat → Int32} {c : Nat} {q : Int32} (hd : r 10 = 0 ∨ r 10 = 1) (hc : c < 52) : nAt (lyP V Bd r c) q = nAt (ru r (18 + c) 2) q := by
  unfold nAt
  congr 1
  exact cs_cg (fun d hd' => by rw [lyP_mid hd hc (by omega) (by omega)])
theorem ly1_f {V : Nat → Int32} {Bd : Nat → Bool} {r : Nat → Int32} {p : Nat} (hV : TV r) (h9 : r 9 = 1) (hp : p < 2) (h5 : 5 ≤ nAt r (Int32.ofNat p)) : TV (ly1 V Bd r p) ∧ (∀ k, k < 9 ∨ 122 ≤ k ∨ k = 10 ∨ k = 11 → ly1 V Bd r p k = r k) ∧ nAt (ly1 V Bd r p) (Int32.ofNat p) + 1 = nAt r (Int32.ofNat p) ∧ nAt (ly1 V Bd r p) (Int32.ofNat (1 - p)) = nAt r (Int32.ofNat (1 - p)) ∧ ((¬ (nAt (ly1 V Bd r p) 0 = 4 ∧ nAt (ly1 V Bd r p) 1 = 4) ∧ ly1 V Bd r p 9 = 1) ∨ ((nAt (ly1 V Bd r p) 0 = 4 ∧ nAt (ly1 V Bd r p) 1 = 4) ∧ ly1 V Bd r p 9 = 2 ∧ (ly1 V Bd r p 14 = -1 ∨ cs (canP V Bd (ly1 V Bd r p) (ly1 V Bd r p 14)) ≠ []))) := by
  obtain ⟨c1, c2⟩ := tpC_in (r := r) (p := p) (by omega)
  have hd := hV.2.2.1
  have tv := hV.layP (V := V) (Bd := Bd) h9 c1 hp c2 h5
  have n0 := fun q => nAt_lyP (V := V) (Bd := Bd) (q := q) hd c1
  have nl := nAt_less c1 hp c2
  have ns := nAt_same (q := 1 - p) (by omega) hp c2 (by omega)
  unfold ly1
  generalize tpC r p = c at *
  refine ⟨tv, fun k hk => lyP_out c1 hd hk, by rw [n0]; exact nl, by rw [n0]; exact ns, ?_⟩
  rw [n0, n0]
  by_cases z : nAt (ru r (18 + c) 2) 0 = 4 ∧ nAt (ru r (18 + c) 2) 1 = 4
  · refine Or.inr ⟨z, ?_, ?_⟩
    · unfold lyP
      rw [if_pos z]
      unfold lyD
      have h10 : lyB (ru r (18 + c) 2) 10 = r 10 := by rw [lyB_at (by decide) (by decide) (by decide) (by decide) (by decide), ru_n (by omega)]
      rw [ru_n (by decide), lyC_at (by decide) (by decide) (by rw [h10]; exact hd)]; rfl
    · unfold lyP
      rw [if_pos z]
      generalize lyC (lyB (ru r (18 + c) 2)) = R
      unfold lyD
      have ec : ∀ q, cs (canP V Bd (ru R 14 (tnP V Bd R (1 - R 10) (R 10))) q) = cs (canP V Bd R q) := fun q => canP_cg (fun k a b => ru_n (by omega)) (ru_n (by decide))
      rw [ec, ru_e]
      unfold tnP
      by_cases y : cs (canP V Bd R (1 - R 10)) = []
      · rw [if_pos y]
        by_cases w : cs (canP V Bd R (R 10)) = []
        · rw [if_pos w]; exact Or.inl rfl
        · rw [if_neg w]; exact Or.inr w
      · rw [if_neg y]; exact Or.inr y
  · refine Or.inl ⟨z, ?_⟩
    unfold lyP
    rw [if_neg z, ru_n (by omega)]; exact h9
/-! to play the lowest -/
section PLs
variable (I : Nat → CI) (n : Nat) (deal mood : Int32)
def plE : Nat → (Nat → Int32) → (Nat → Int32)
  | 0, r => r
  | k + 1, r => if r 14 = -1 then r else plE k (plN I n deal mood r ((plL I n deal mood r).getD 0 0)).2
end PLs
theorem plN_10 {I : Nat → CI} {n : Nat} {deal mood : Int32} {r : Nat → Int32} (h : GO r) (h14 : r 14 ≠ -1) {c k : Nat} (hc : c ∈ plL I n deal mood r) (hk : k = 10 ∨ k = 11) : (plN I n deal mood r c).2 k = r k := by
  have hp := h.pt h14 hc
  obtain ⟨c52, p2, h9, _, _, m8, _⟩ := hp
  unfold plN ptP
  generalize ix (r 13) = m at *
  generalize ix (r 14) = p at *
  split
  · show pgP _ p _ k = _
    rw [pgP_o p2 (by omega) (by omega), ptB_o (by omega), ptC_o (by omega) (by omega), ptB_o (by omega), ptA_o (by omega) (by omega) (by omega) (by omega) (by omega)]
  · show pgP _ p _ k = _
    rw [pgP_o p2 (by omega) (by omega), ptB_o (by omega), ptA_o (by omega) (by omega) (by omega) (by omega) (by omega)]
theorem plL_0 {L : List Nat} (h : L ≠ []) : L.getD 0 0 ∈ L := getD_mem (List.length_pos_iff.mpr h)
theorem plE_f {I : Nat → CI} {n : Nat} {deal mood : Int32} : ∀ (k : Nat) (r : Nat → Int32), GO r → (r 14 = -1 ∨ plL I n deal mood r ≠ []) → unp r ≤ k → GO (plE I n deal mood k r) ∧ plE I n deal mood k r 14 = -1 ∧ (∀ j, j < 9 ∨ 130 ≤ j ∨ j = 10 ∨ j = 11 ∨ (18 ≤ j ∧ j < 70) → plE I n deal mood k r j = r j)
  | 0, r, hG, hne, hu => by
    refine ⟨hG, ?_, fun _ _ => rfl⟩
    apply Classical.byContradiction
    intro q
    exact hne.resolve_left q (unp_nil hG q (by omega))
  | k + 1, r, hG, hne, hu => by
    show GO (if r 14 = -1 then r else _) ∧ (if r 14 = -1 then r else _) 14 = -1 ∧ ∀ j, _ → (if r 14 = -1 then r else _) j = r j
    by_cases z : r 14 = -1
    · rw [if_pos z]; exact ⟨hG, z, fun _ _ => rfl⟩
    · rw [if_neg z]
      have hc := plL_0 (hne.resolve_left z)
      obtain ⟨g1, g2, g3, g4, g5, g6⟩ := hG.next z hc
      have un := unp_next (I := I) (n := n) (deal := deal) (mood := mood) hG z hc
      obtain ⟨a, b, c⟩ := plE_f k _ g1 g6 (by omega)
      refine ⟨a, b, fun j hj => ?_⟩
      rw [c j hj]
      by_cases y : j = 10 ∨ j = 11
      · exact plN_10 hG z hc y
      · by_cases x : 18 ≤ j ∧ j < 70
        · exact g4 j x.1 x.2
        · exact g3 j (by omega)
/-- a rubber -/
def ru4 (V : Nat → Int32) (Bd : Nat → Bool) (r : Nat → Int32) (d : Nat) : Nat → Int32 := ly1 V Bd (ly1 V Bd (ly1 V Bd (ly1 V Bd r (1 - d)) (1 - d)) d) d
theorem ru4_f {V : Nat → Int32} {Bd : Nat → Bool} {r : Nat → Int32} {s d : Nat} (hd : d < 2) (hV : TV r) (h8 : (r 8).toInt < 999) :
    (TV (dlR r s d) ∧ dlR r s d 9 = 1 ∧ nAt (dlR r s d) (Int32.ofNat (1 - d)) = 6) ∧
    (TV (ly1 V Bd (dlR r s d) (1 - d)) ∧ ly1 V Bd (dlR r s d) (1 - d) 9 = 1 ∧ nAt (ly1 V Bd (dlR r s d) (1 - d)) (Int32.ofNat (1 - d)) = 5) ∧
    (TV (ly1 V Bd (ly1 V Bd (dlR r s d) (1 - d)) (1 - d)) ∧ ly1 V Bd (ly1 V Bd (dlR r s d) (1 - d)) (1 - d) 9 = 1 ∧ nAt (ly1 V Bd (ly1 V Bd (dlR r s d) (1 - d)) (1 - d)) (Int32.ofNat d) = 6) ∧
    (TV (ly1 V Bd (ly1 V Bd (ly1 V Bd (dlR r s d) (1 - d)) (1 - d)) d) ∧ ly1 V Bd (ly1 V Bd (ly1 V Bd (dlR r s d) (1 - d)) (1 - d)) d 9 = 1 ∧ nAt (ly1 V Bd (ly1 V Bd (ly1 V Bd (dlR r s d) (1 - d)) (1 - d)) d) (Int32.ofNat d) = 5) ∧
    (GO (ru4 V Bd (dlR r s d) d) ∧ (ru4 V Bd (dlR r s d) d 14 = -1 ∨ cs (canP V Bd (ru4 V Bd (dlR r s d) d) (ru4 V Bd (dlR r s d) d 14)) ≠ []) ∧ ∀ k, k < 9 ∨ 122 ≤ k ∨ k = 10 ∨ k = 11 → ru4 V Bd (dlR r s d) d k = dlR r s d k) := by
  have tv0 := dlR_TV (s := s) hd hV h8
  have n0 := dlR_n (r := r) (s := s) (p := 1 - d) hd (by omega)
  have n0' := dlR_n (r := r) (s := s) (p := d) hd hd
  have h9 : dlR r s d 9 = 1 := rfl
  unfold ru4
  generalize dlR r s d = r0 at *
  have dd : 1 - (1 - d) = d := by omega
  have nz : ∀ R, nAt R (Int32.ofNat d) = 4 ∧ nAt R (Int32.ofNat (1 - d)) = 4 ↔ nAt R 0 = 4 ∧ nAt R 1 = 4 := fun R => by
    obtain rfl | rfl : d = 0 ∨ d = 1 := by omega
    · exact Iff.rfl
    · exact and_comm
  obtain ⟨a1, a2, a3, a4, a5⟩ := ly1_f (V := V) (Bd := Bd) tv0 h9 (show 1 - d < 2 by omega) (by omega)
  rw [dd] at a4
  have a9 := a5.resolve_right (fun q => by have := (nz _).mpr q.1; omega)
  generalize hr1 : ly1 V Bd r0 (1 - d) = r1 at *
  obtain ⟨b1, b2, b3, b4, b5⟩ := ly1_f (V := V) (Bd := Bd) a1 a9.2 (show 1 - d < 2 by omega) (by omega)
  rw [dd] at b4
  have b9 := b5.resolve_right (fun q => by have := (nz _).mpr q.1; omega)
  generalize hr2 : ly1 V Bd r1 (1 - d) = r2 at *
  obtain ⟨c1, c2, c3, c4, c5⟩ := ly1_f (V := V) (Bd := Bd) b1 b9.2 hd (by omega)
  have c9 := c5.resolve_right (fun q => by have := (nz _).mpr q.1; omega)
  generalize hr3 : ly1 V Bd r2 d = r3 at *
  obtain ⟨d1, d2, d3, d4, d5⟩ := ly1_f (V := V) (Bd := Bd) c1 c9.2 hd (by omega)
  have d9 := d5.resolve_left (fun q => q.1 ((nz _).mp ⟨by omega, by omega⟩))
  exact ⟨⟨tv0, h9, n0⟩, ⟨a1, a9.2, by omega⟩, ⟨b1, b9.2, by omega⟩, ⟨c1, c9.2, by omega⟩, ⟨d1, d9.2.1⟩, d9.2.2, fun k hk => by rw [d2 k hk, c2 k hk, b2 k hk, a2 k hk]⟩
