/-! ===== the class counts, part by part ===== -/
theorem TK.keep {A B : Mem} {b w pl Y : Nat} {V : Nat → Nat} {C : Nat → Nat → Nat → Nat} {P : Nat → Bool} (h : TK A b w pl V Y C P) (e : ∀ q, b ≤ q → q < b + 6 → Ea A B q) : TK B b w pl V Y C P := by
  have e0 := e b (by omega) (by omega)
  unfold TK
  rw [e0.1, e0.2.1, e0.2.2.1, (e (b + 3) (by omega) (by omega)).1, (e (b + 4) (by omega) (by omega)).1, (e (b + 5) (by omega) (by omega)).1]
  exact h
theorem part_c {b w pl Y s wh : Nat} {V : Nat → Nat} {C : Nat → Nat → Nat → Nat} {P : Nat → Bool} {A : Mem} (hW : WV A w V Y C) (hp : pl < 2) (h4 : (cs P).length = 4) (h : TK A b w pl V Y C P) (hs : s < 52) (hw : wh < 6) : FX2_part b (Int32.ofNat s) (Int32.ofNat wh) A = some (Int32.ofNat (amt V Y (C pl) pl (w5 (fC P) s) wh)) := by
  obtain ⟨⟨a5, a6⟩, ⟨a7, av⟩, a3, a4, a8, a9⟩ := h
  have hv := hW.vle s
  have sd : Int32.ofNat s / 4 = Int32.ofNat (s / 4) := nn_div (b := 4) (by omega) (by decide)
  have sr : irm (Int32.ofNat s) 4 = Int32.ofNat (s % 4) := nn_rem (b := 4) (by omega) (by decide)
  have k1 : FX2_fifteensWith b (Int32.ofNat s) A = some (Int32.ofNat (fif V Y (C pl 1) (w5 (fC P) s) 5 32)) := by
    unfold FX2_fifteensWith
    rw [nmb, a5, ob rfl, ob (hW.val hs), jb1, jb, if_neg (show ¬ Int32.ofNat (V s) < 0 from fun q => by have := (nn_lt (b := 0) (by omega) (by omega)).mp q; omega), if_neg (show ¬ (32 : Int32) ≤ Int32.ofNat (V s) from nle (n := 32) (by omega) (by decide)), gp (inb_nn (by omega) (by decide)), nn_ix (by omega), a7, av _ hv.1 (by omega)]
    show some (Int32.ofNat _ + Int32.ofNat _) = _
    rw [nn_add, fif_5]
  have k2 : mI A (b + 3) (s / 4) = Int32.ofNat (prs (C pl 2) (fun k => w5 (fC P) s k / 4) 5) := by rw [a3 _ (by omega), prs_5]
  have k3 : mI A (b + 4) (s / 4) = Int32.ofNat (rns (C pl 3) (w5 (fC P) s)) := by rw [a4 _ (by omega), rns_5]
  have k4 : FX2_flushWith b (Int32.ofNat s) A = some (Int32.ofNat (fls (C pl 4) pl (w5 (fC P) s))) := by
    unfold FX2_flushWith
    have m0 : fC P 0 % 4 < 4 := Nat.mod_lt _ (by decide)
    rcases a8 with ⟨p1, p2⟩ | ⟨p1, p2⟩
    · have e : fls (C pl 4) pl (w5 (fC P) s) = if s % 4 = fC P 0 % 4 then C pl 4 (2 * (fC P 0 % 4) + 1) else if pl = 1 then 0 else C pl 4 (2 * (fC P 0 % 4)) := by
        unfold fls
        rw [w5_l (k := 1) (by decide), w5_l (k := 0) (by decide), w5_l (k := 2) (by decide), w5_l (k := 3) (by decide), w5_4, if_pos (show fC P 1 % 4 = fC P 0 % 4 ∧ fC P 2 % 4 = fC P 0 % 4 ∧ fC P 3 % 4 = fC P 0 % 4 from p1)]
      have fi : ∀ z, (4 ≤ z ∧ z ≤ 5) → FX10_flushItem (Int32.ofNat (fC P 0 % 4)) (Int32.ofNat z) = some (Int32.ofNat (2 * (fC P 0 % 4) + (z - 4))) := fun z hz => by
        unfold FX10_flushItem
        rw [show (2 : Int32) = Int32.ofNat 2 from rfl, nn_mul, nn_add, show (4 : Int32) = Int32.ofNat 4 from rfl, nn_sub (by omega) (by omega)]
        congr 2; omega
      rw [p2, if_pos (show ¬ Int32.ofNat (fC P 0 % 4) = -1 from fun q => by
        have := congrArg Int32.toInt q
        rw [nn_int (by omega), show (-1 : Int32).toInt = -1 from rfl] at this; omega), sr, a5, a6]
      have es : (Int32.ofNat (s % 4) = Int32.ofNat (fC P 0 % 4)) ↔ s % 4 = fC P 0 % 4 := nn_eq (by omega) (by omega)
      by_cases z : s % 4 = fC P 0 % 4
      · rw [if_neg (fun q => q (es.mpr z)), nmb, ob (show FX10_flushItem (Int32.ofNat (fC P 0 % 4)) 5 = _ from fi 5 (by decide)), ob rfl, ob (show FX10_countOf w 4 (Int32.ofNat pl) _ A = _ from hW.cnt (kind := 4) (pl := pl) (by decide) (by omega) (Nat.zero_le _) (show 2 * (fC P 0 % 4) + (5 - 4) < 8 by omega) (by omega)), e, if_pos z]
      · rw [if_pos (fun q => z (es.mp q)), jb1]
        have e0 : (Int32.ofNat pl = 0) ↔ pl = 0 := nn_eq (b := 0) (by omega) (by omega)
        by_cases y : pl = 0
        · rw [if_neg (fun q => q (e0.mpr y)), nmb, ob (show FX10_flushItem (Int32.ofNat (fC P 0 % 4)) 4 = _ from fi 4 (by decide)), ob rfl, ob (show FX10_countOf w 4 (Int32.ofNat pl) _ A = _ from hW.cnt (kind := 4) (pl := pl) (by decide) (by omega) (Nat.zero_le _) (show 2 * (fC P 0 % 4) + (4 - 4) < 8 by omega) (by omega)), e, if_neg z, if_neg (by omega)]; rfl
        · rw [if_pos (fun q => y (e0.mp q)), e, if_neg z, if_pos (by omega)]; rfl
    · rw [p2, if_neg (by decide)]
      unfold fls
      rw [w5_l (k := 1) (by decide), w5_l (k := 0) (by decide), w5_l (k := 2) (by decide), w5_l (k := 3) (by decide), if_neg (show ¬ (fC P 1 % 4 = fC P 0 % 4 ∧ fC P 2 % 4 = fC P 0 % 4 ∧ fC P 3 % 4 = fC P 0 % 4) from p1)]; rfl
  have k5 : FX2_nobsWith b (Int32.ofNat s) A = some (Int32.ofNat (nbs (C pl 5) (w5 (fC P) s))) := by
    unfold FX2_nobsWith
    rw [sr, show (40 : Int32) + Int32.ofNat (s % 4) = Int32.ofNat (40 + s % 4) from nn_add 40 _, ob (a9.has (show 40 + s % 4 < 52 by omega)), jb1, nbs_5 h4 hs, a5, a6]
    have e : (decide ((40 + s % 4) / 4 = 10) && P (40 + s % 4)) = P (40 + s % 4) := by
      rw [decide_eq_true (show (40 + s % 4) / 4 = 10 by omega), Bool.true_and]
    rw [e]
    by_cases z : P (40 + s % 4) = true
    · rw [if_pos z, if_neg (show ¬ (1 : Int32) = 0 by decide), nmb, ob rfl, ob (show FX10_countOf w 5 (Int32.ofNat pl) _ A = _ from hW.cnt (kind := 5) (pl := pl) (by decide) (by omega) (Nat.zero_le _) (show s % 4 < 4 by omega) (by omega)), if_pos z]
    · rw [if_neg z, if_pos rfl, if_neg z]; rfl
  unfold FX2_part
  rw [nmb, a5, jb, if_neg (by simp), ob (isCard_nn hs), if_pos (by decide), nmb, sd]
  have i13 : inb (Int32.ofNat (s / 4)) 13 = true := inb_nn (by omega) (by decide)
  match wh, hw with
  | 0, _ =>
    show ((FX2_fifteensWith b (Int32.ofNat s) A).bind fun r10 => gd (inb (Int32.ofNat (s / 4)) 13) (gd (inb (Int32.ofNat (s / 4)) 13) ((FX2_flushWith b (Int32.ofNat s) A).bind fun r15 => (FX2_nobsWith b (Int32.ofNat s) A).bind fun r16 => some ((((r10 + (mI A (b + 3) (ix (Int32.ofNat (s / 4))))) + (mI A (b + 4) (ix (Int32.ofNat (s / 4))))) + r15) + r16)))) = _
    rw [ob k1, gp i13, gp i13, ob k4, ob k5, nn_ix (by omega), k2, k3, nn_add, nn_add, nn_add, nn_add]; rfl
  | 1, _ =>
    show ((FX2_fifteensWith b (Int32.ofNat s) A).bind fun r10 => some r10) = _
    rw [ob k1]; rfl
  | 2, _ =>
    show gd (inb (Int32.ofNat (s / 4)) 13) (some (mI A (b + 3) (ix (Int32.ofNat (s / 4))))) = _
    rw [gp i13, nn_ix (by omega), k2]; rfl
  | 3, _ =>
    show gd (inb (Int32.ofNat (s / 4)) 13) (some (mI A (b + 4) (ix (Int32.ofNat (s / 4))))) = _
    rw [gp i13, nn_ix (by omega), k3]; rfl
  | 4, _ =>
    show ((FX2_flushWith b (Int32.ofNat s) A).bind fun r10 => some r10) = _
    rw [ob k4]; rfl
  | 5, _ =>
    show ((FX2_nobsWith b (Int32.ofNat s) A).bind fun r10 => some r10) = _
    rw [ob k5]; rfl
  | k + 6, hk => exact absurd hk (by omega)
