/-! ===== to lay, on both sides ===== -/
def RwE (u : Nat) (M N : Mem) : Prop := Eo (fun q => q = u ∨ q = u + 2 ∨ q = u + 18 ∨ q = u + 20) M N ∧ (∀ k, k ≠ 34 → k ≠ 38 → mI N u k = mI M u k) ∧ ∀ k, k ≠ 39 → k ≠ 40 → mJ N u k = mJ M u k
theorem RwE.rf {u : Nat} {M : Mem} : RwE u M M := ⟨Eo.rf, fun _ _ _ => rfl, fun _ _ _ => rfl⟩
theorem RwE.tr {u : Nat} {M N K : Mem} (h : RwE u M N) (h2 : RwE u N K) : RwE u M K := ⟨h.1.tr h2.1, fun k a b => (h2.2.1 k a b).trans (h.2.1 k a b), fun k a b => (h2.2.2 k a b).trans (h.2.2 k a b)⟩
theorem TlE.rw {u : Nat} {M N : Mem} (h : TlE u M N) : RwE u M N := ⟨h.1.up (fun q hq => by omega), h.2.1, h.2.2.1⟩
theorem RwE_s {u k : Nat} {M : Mem} {v : Int32} : RwE u M (sI M (u + 2) k v) := ⟨Eo_sI (by omega), fun j _ _ => by rw [mI_n1 (by omega)], fun _ _ _ => rfl⟩
theorem RL.rw {u n : Nat} {I : Nat → CI} {deal mood : Int32} {B B' : Mem} (h : RL u n I deal mood B) (e : RwE u B B') (er : ∀ k, k < 9 ∨ 194 ≤ k → mI B' (u + 2) k = mI B (u + 2) k) : RL u n I deal mood B' := h.keep (fun k a _ => er k a) (e.2.1 20 (by decide) (by decide))
theorem lyB_at {r : Nat → Int32} {k : Nat} (a : k ≠ 9) (b : k ≠ 12) (c : k ≠ 13) (d : k ≠ 15) (e : ¬ (70 ≤ k ∧ k < 122)) : lyB r k = r k := by
  unfold lyB; rw [zr_n e, ru_n d, ru_n c, ru_n b, ru_n a]
theorem lyP_out {V : Nat → Int32} {Bd : Nat → Bool} {r : Nat → Int32} {c k : Nat} (hc : c < 52) (hd : r 10 = 0 ∨ r 10 = 1) (hk : k < 9 ∨ 122 ≤ k ∨ k = 10 ∨ k = 11) : lyP V Bd r c k = r k := by
  have r10 : lyB (ru r (18 + c) 2) 10 = r 10 := by rw [lyB_at (by decide) (by decide) (by decide) (by decide) (by decide), ru_n (by omega)]
  unfold lyP
  split
  · unfold lyD
    rw [ru_n (by omega), lyC_at (by omega) (by omega) (by rw [r10]; exact hd), lyB_at (by omega) (by omega) (by omega) (by omega) (by omega), ru_n (by omega)]
  · rw [ru_n (by omega)]
theorem layAway_c {b w c p n : Nat} {I : Nat → CI} {deal mood : Int32} {A : Mem} {r : Nat → Int32} (hR : TR A b r) (hV : TV r) (h9 : r 9 = 1) (hc : c < 52) (hp : p < 2) (hw : r (18 + c) = Int32.ofNat p) (hW : WTab A w I n deal mood) (hd : w + 12 ≤ b ∨ b + 4 ≤ w) : So (FX8_layAway b (Int32.ofNat c) (Int32.ofNat p) w A) (fun N => Eo (fun q => b ≤ q ∧ q < b + 4) A N ∧ TR N b (lyP (vOf I n deal mood) (bOf I n deal mood) r c)) := by
  unfold FX8_layAway
  have ip : FX11_isPlayer (Int32.ofNat p) = some 1 := by
    obtain rfl | rfl : p = 0 ∨ p = 1 := by omega
    all_goals rfl
  refine So.bindE ip ?_
  rw [if_pos (by decide), nn_ix (by omega)]
  refine So_gd (inb_nn hp (by decide)) (So.bindE (bit_nn hc) (So_gd (inb_nn hp (by decide)) (So_nm (So.bindE (bit_nn hc) (So_nm ?_)))))
  rw [mJ_n1 (a := b + 1) (b := b) (by omega)]
  have t1 := hR.lay hc hp hw
  generalize hM8 : sJ (sJ A (b + 1) p (mJ A (b + 1) p &&& (((1 : Int64) <<< ((Int32.ofNat c).toInt64 &&& 63)) ^^^ (-1)))) b 3 (mJ A b 3 ||| ((1 : Int64) <<< ((Int32.ofNat c).toInt64 &&& 63))) = M8 at t1
  have E8 : Eo (fun q => b ≤ q ∧ q < b + 4) A M8 := by rw [← hM8]; exact (Eo_sJ (by omega)).tr (Eo_sJ (by omega))
  have k0 : FJ_Long_bitCount (mJ M8 (b + 1) 0) = some (Int32.ofNat (nAt (ru r (18 + c) 2) 0)) := t1.1.count
  have k1 : FJ_Long_bitCount (mJ M8 (b + 1) 1) = some (Int32.ofNat (nAt (ru r (18 + c) 2) 1)) := t1.2.1.count
  have hl : ∀ q, nAt (ru r (18 + c) 2) q ≤ 52 := fun q => cs_le _
  have e4 : ∀ q, (Int32.ofNat (nAt (ru r (18 + c) 2) q) = 4) ↔ nAt (ru r (18 + c) 2) q = 4 := fun q => nn_eq (b := 4) (by have := hl q; omega) (by omega)
  refine So.bindE k0 (So_jn1R (fun N => Eo (fun q => b ≤ q ∧ q < b + 4) A N ∧ TR N b (lyP (vOf I n deal mood) (bOf I n deal mood) r c)) (fun N hN => So.ok hN) (fun j12 h12 => ?_))
  refine So.ite (fun z => h12 _ ⟨E8, ?_⟩) (fun z => So.bindE k1 (So.ite (fun y => h12 _ ⟨E8, ?_⟩) (fun y => ?_)))
  · unfold lyP; rw [if_neg (fun q => z ((e4 0).mpr q.1))]; exact t1
  · unfold lyP; rw [if_neg (fun q => y ((e4 1).mpr q.2))]; exact t1
  have zy : nAt (ru r (18 + c) 2) 0 = 4 ∧ nAt (ru r (18 + c) 2) 1 = 4 := ⟨(e4 0).mp (Classical.not_not.mp z), (e4 1).mp (Classical.not_not.mp y)⟩
  have v2 := hV.lay2 h9 hc hp hw zy
  have eP : lyP (vOf I n deal mood) (bOf I n deal mood) r c = lyD (vOf I n deal mood) (bOf I n deal mood) (lyC (lyB (ru r (18 + c) 2))) := by unfold lyP; rw [if_pos zy]
  rw [eP] at h12 ⊢
  generalize hr1 : ru r (18 + c) 2 = r1 at t1 v2 h12 ⊢
  refine So.bindE rfl (So_nm ?_)
  have t2 : TR (sI (sI (sI (sI (sJ M8 b 4 0) b 9 0) b 8 0) b 11 (-1)) b 5 2) b (lyB r1) := by
    refine (((((t1.gone0).fld (f := 9) (k := 12) (v := 0) (by decide)).fld (f := 8) (k := 13) (v := 0) (by decide)).fld (f := 11) (k := 15) (v := -1) (by decide)).fld (f := 5) (k := 9) (v := 2) (by decide)).row (fun k a b => ?_)
    unfold lyB zr ru
    by_cases x : 70 ≤ k ∧ k < 122
    · simp only [if_pos x, show k ≠ 9 by omega, show k ≠ 15 by omega, show k ≠ 13 by omega, show k ≠ 12 by omega, if_false]
    · simp only [if_neg x]
      by_cases x9 : k = 9
      · subst x9; rfl
      · simp only [if_neg x9]
  have E17 : Eo (fun q => b ≤ q ∧ q < b + 4) A (sI (sI (sI (sI (sJ M8 b 4 0) b 9 0) b 8 0) b 11 (-1)) b 5 2) := ((((E8.tr (Eo_sJ (by omega))).tr (Eo_sI (by omega))).tr (Eo_sI (by omega))).tr (Eo_sI (by omega))).tr (Eo_sI (by omega))
  generalize sI (sI (sI (sI (sJ M8 b 4 0) b 9 0) b 8 0) b 11 (-1)) b 5 2 = M17 at t2 E17
  obtain ⟨d, d1, d2⟩ := pl_nn v2.2.2.1
  refine So_jn1R (fun N => Eo (fun q => b ≤ q ∧ q < b + 4) A N ∧ TR N b (lyC (lyB r1))) (fun N hN => ?_) (fun j19 h19 => ?_)
  · obtain ⟨n1, n2⟩ := hN
    have v3 := v2.lay3
    have e10 : lyC (lyB r1) 10 = Int32.ofNat d := by rw [lyC_at (by decide) (by decide) v2.2.2.1]; exact d2
    have e6 : mI N b 6 = Int32.ofNat d := n2.2.2.2.2.2.1.trans e10
    rw [e6, one_minus d1]
    refine So.bindE (firstWhoCan_c n2 v3 (show 1 - d < 2 by omega) (hW.keep (w := w) (fun q a b' => n1 q (by omega)))) (So_nm (h12 _ ⟨n1.tr (Eo_sI (by omega)), ?_⟩))
    unfold lyD
    rw [e10, one_minus d1]
    rw [show 1 - (1 - d) = d by omega]
    exact n2.fld (f := 10) (k := 14) (by decide)
  · have e7 : mI M17 b 7 = lyB r1 11 := t2.2.2.2.2.2.2.1
    have e6 : mI M17 b 6 = Int32.ofNat d := t2.2.2.2.2.2.1.trans d2
    rw [e7, e6]
    refine So.ite (fun x => h19 _ ⟨E17, ?_⟩) (fun x => So.bindE (addPegs_c d1) (h19 _ ⟨E17.tr (Eo_sI (by omega)), ?_⟩))
    · unfold lyC; rw [if_neg x]; exact t2
    · unfold lyC; rw [if_pos (Classical.not_not.mp x), d2, nn_ix (by omega)]
      unfold pgP
      rw [t2.sc d1]
      exact t2.peg d1
theorem layIt_r {u c p n : Nat} {I : Nat → CI} {deal mood : Int32} {B : Mem} (h : RL u n I deal mood B) (hV : TV (mI B (u + 2))) (h9 : mI B (u + 2) 9 = 1) (hc : c < 52) (hp : p < 2) (hw : mI B (u + 2) (18 + c) = Int32.ofNat p) : So (FX12_layIt u (Int32.ofNat c) B) (fun N => RwE u B N ∧ mI N (u + 2) = lyP (vOf I n deal mood) (bOf I n deal mood) (mI B (u + 2)) c) := by
  unfold FX12_layIt
  rw [show (18 : Int32) + Int32.ofNat c = Int32.ofNat (18 + c) from nn_add 18 c, nn_ix (by omega)]
  refine So_gd (inb_nn (by omega) (by decide)) (So_nm ?_)
  generalize hM2 : sI B (u + 2) (18 + c) 2 = M2
  have R2 : RwE u B M2 := by rw [← hM2]; exact RwE_s
  have r2 : mI M2 (u + 2) = ru (mI B (u + 2)) (18 + c) 2 := by rw [← hM2]; exact sI_ru
  have k : ∀ q, FX12_cardsAt u q M2 = some (Int32.ofNat (nAt (ru (mI B (u + 2)) (18 + c) 2) q)) := fun q => by rw [cardsAt_eq, r2]; rfl
  have hl : ∀ q, nAt (ru (mI B (u + 2)) (18 + c) 2) q ≤ 52 := fun q => cs_le _
  have e4 : ∀ q, (Int32.ofNat (nAt (ru (mI B (u + 2)) (18 + c) 2) q) = 4) ↔ nAt (ru (mI B (u + 2)) (18 + c) 2) q = 4 := fun q => nn_eq (b := 4) (by have := hl q; omega) (by omega)
  refine So.bindE (k 0) (So_jn1R (fun N => RwE u B N ∧ mI N (u + 2) = lyP (vOf I n deal mood) (bOf I n deal mood) (mI B (u + 2)) c) (fun N hN => So.ok hN) (fun j6 h6 => ?_))
  refine So.ite (fun z => h6 _ ⟨R2, ?_⟩) (fun z => So.bindE (k 1) (So.ite (fun y => h6 _ ⟨R2, ?_⟩) (fun y => ?_)))
  · unfold lyP; rw [if_neg (fun q => z ((e4 0).mpr q.1))]; exact r2
  · unfold lyP; rw [if_neg (fun q => y ((e4 1).mpr q.2))]; exact r2
  have zy : nAt (ru (mI B (u + 2)) (18 + c) 2) 0 = 4 ∧ nAt (ru (mI B (u + 2)) (18 + c) 2) 1 = 4 := ⟨(e4 0).mp (Classical.not_not.mp z), (e4 1).mp (Classical.not_not.mp y)⟩
  have v2 := hV.lay2 h9 hc hp hw zy
  have eP : lyP (vOf I n deal mood) (bOf I n deal mood) (mI B (u + 2)) c = lyD (vOf I n deal mood) (bOf I n deal mood) (lyC (lyB (ru (mI B (u + 2)) (18 + c) 2))) := by unfold lyP; rw [if_pos zy]
  rw [eP] at h6 ⊢
  obtain ⟨d, d1, d2⟩ := pl_nn v2.2.2.1
  have b10 : mI M2 (u + 2) 10 = Int32.ofNat d := by
    rw [r2, ru_n (by omega), ← d2, lyB_at (by decide) (by decide) (by decide) (by decide) (by decide), ru_n (by omega)]
  refine So_nm (So_nm (So_nm (So_nm (So_nm ?_))))
  rw [b10]
  generalize hM18 : sI (sI (sI (sI M2 (u + 2) 9 2) (u + 2) 12 0) (u + 2) 13 0) (u + 2) 15 (-1) = M18
  have R18 : RwE u B M18 := by rw [← hM18]; exact (((R2.tr RwE_s).tr RwE_s).tr RwE_s).tr RwE_s
  have r18 : mI M18 (u + 2) = ru (ru (ru (ru (ru (mI B (u + 2)) (18 + c) 2) 9 2) 12 0) 13 0) 15 (-1) := by
    rw [← hM18, sI_ru, sI_ru, sI_ru, sI_ru, r2]
  refine loop_for 52 (by decide) (fun i N => RwE u B N ∧ mI N (u + 2) = fun j => if 70 ≤ j ∧ j < 70 + i then 0 else mI M18 (u + 2) j) M18 ⟨R18, funext fun j => by rw [if_neg (by omega)]⟩ (fun N rec hN => ?_) (fun i N rec hi hN hr => ?_)
  · obtain ⟨n1, n2⟩ := hN
    have n2 : mI N (u + 2) = lyB (ru (mI B (u + 2)) (18 + c) 2) := by rw [n2, r18]; rfl
    generalize hr1 : ru (mI B (u + 2)) (18 + c) 2 = r1 at n2 v2 h6 d2 ⊢
    have hout : ∀ k, k < 9 ∨ 194 ≤ k → lyB r1 k = mI B (u + 2) k := fun k hk => by rw [lyB_at (by omega) (by omega) (by omega) (by omega) (by omega), ← hr1, ru_n (by omega)]
    refine So.ite (fun _ => ?_) (fun h => absurd h (ge_self 52))
    refine So.bindE rfl (So_jn1R (fun K => RwE u B K ∧ mI K (u + 2) = lyC (lyB r1)) (fun K hK => ?_) (fun j26 h26 => ?_))
    · obtain ⟨q1, q2⟩ := hK
      have q12 : mI K (u + 2) 12 = 0 := by rw [q2, lyC_at (by decide) (by decide) v2.2.2.1]; rfl
      have q10 : lyC (lyB r1) 10 = Int32.ofNat d := by rw [lyC_at (by decide) (by decide) v2.2.2.1]; exact d2
      refine So.bind (turnTo_r (h.rw q1 (fun k hk => by rw [q2, lyC_at (by omega) (by omega) v2.2.2.1]; exact hout k hk)) (by rw [q12]; decide)) (fun X hX => ?_)
      obtain ⟨X', x1, rfl⟩ := hX
      refine h6 _ ⟨(q1.tr x1.rw).tr RwE_s, ?_⟩
      rw [sI_ru, x1.row, q2]
      unfold lyD
      rw [q10]
    · rw [n2]
      refine So.ite (fun x => h26 _ ⟨n1, ?_⟩) (fun x => ?_)
      · unfold lyC; rw [if_neg x]; exact n2
      · have pr : 0 ≤ (mI N (u + 2) (16 + d)).toInt ∧ (mI N (u + 2) (16 + d)).toInt ≤ 9999 := by
          rw [n2]
          obtain rfl | rfl : d = 0 ∨ d = 1 := by omega
          · exact v2.2.2.2.2.2.2.2.2.1
          · exact v2.2.2.2.2.2.2.2.2.2.1
        refine So.bindE (peg_r d1 pr (by decide)) (h26 _ ⟨n1.tr RwE_s, ?_⟩)
        unfold lyC
        rw [if_pos (Classical.not_not.mp x), d2, nn_ix (by omega), sI_ru, n2]; rfl
  · obtain ⟨n1, n2⟩ := hN
    refine So.ite (fun h => absurd h (nle hi (by decide))) (fun _ => ?_)
    rw [show (70 : Int32) + Int32.ofNat i = Int32.ofNat (70 + i) from nn_add 70 i, nn_ix (by omega)]
    refine So_gd (inb_nn (by omega) (by decide)) (So_nm (So_nm (hr _ ⟨n1.tr RwE_s, ?_⟩)))
    rw [sI_ru, n2]
    funext j
    show (if j = 70 + i then 0 else if 70 ≤ j ∧ j < 70 + i then 0 else mI M18 (u + 2) j) = _
    by_cases x : j = 70 + i
    · rw [if_pos x, if_pos (by omega)]
    · rw [if_neg x]
      by_cases y : 70 ≤ j ∧ j < 70 + i
      · rw [if_pos y, if_pos (by omega)]
      · rw [if_neg y, if_neg (by omega)]
/-- the tables fit the law in force -/
def FitW (t u n : Nat) (I : Nat → CI) (A B : Mem) : Prop := mI A (t + 179) 4 = mI B (u + 2) 7 ∧ WTab A (t + 179) I n (mI B (u + 2) 8) (mI B (u + 2) 6) ∧ LwI (mI B (u + 2)) (mI B (u + 2) 2) n I
theorem JT.rl {Λ : Lam} {t u T n : Nat} {I : Nat → CI} {A B : Mem} (h : JT Λ t u T A B) (f : FitW t u n I A B) : RL u n I (mI B (u + 2) 8) (mI B (u + 2) 6) B := ⟨f.2.2, h.2.2.2.2.2, rfl, rfl⟩
theorem canLay_c {b c p : Nat} {A : Mem} {r : Nat → Int32} (hR : TR A b r) (hc : c < 52) (hp : p < 2) : ∃ v : Int32, FX8_canLay b (Int32.ofNat c) (Int32.ofNat p) A = some v ∧ (v = 1 ∧ (r 9 = 1 ∧ r (18 + c) = Int32.ofNat p ∧ 5 ≤ nAt r (Int32.ofNat p)) ∨ v = 0 ∧ ¬ (r 9 = 1 ∧ r (18 + c) = Int32.ofNat p ∧ 5 ≤ nAt r (Int32.ofNat p))) := by
  have ip : FX11_isPlayer (Int32.ofNat p) = some 1 := by
    obtain rfl | rfl : p = 0 ∨ p = 1 := by omega
    all_goals rfl
  have e5 : mI A b 5 = r 9 := hR.2.2.2.2.1
  have k0 : FJ_Long_bitCount (mJ A (b + 1) p) = some (Int32.ofNat (nAt r (Int32.ofNat p))) := (hR.own hp).count
  have k1 : FX11_has (mJ A (b + 1) p) (Int32.ofNat c) = some (if r (18 + c) = Int32.ofNat p then 1 else 0) := by rw [(hR.own hp).has hc]; simp
  have hl : nAt r (Int32.ofNat p) ≤ 52 := cs_le _
  unfold FX8_canLay
  rw [jb1, jb, e5]
  by_cases z : r 9 = 1
  · rw [if_neg (fun y => y z), ob ip, if_neg (by decide), gp (inb_nn hp (by decide)), nn_ix (by omega), ob k1]
    by_cases y : r (18 + c) = Int32.ofNat p
    · rw [if_pos y, if_neg (by decide), gp (inb_nn hp (by decide)), ob k0]
      by_cases x : 5 ≤ nAt r (Int32.ofNat p)
      · rw [if_neg (show ¬ Int32.ofNat (nAt r (Int32.ofNat p)) ≤ 4 from nle (n := nAt r (Int32.ofNat p)) (i := 4) (by omega) (by omega))]
        exact ⟨1, rfl, Or.inl ⟨rfl, z, y, x⟩⟩
      · rw [if_pos (show Int32.ofNat (nAt r (Int32.ofNat p)) ≤ 4 from (nn_le (b := 4) (by omega) (by omega)).mpr (by omega))]
        exact ⟨0, rfl, Or.inr ⟨rfl, fun q => x q.2.2⟩⟩
    · rw [if_neg y, if_pos rfl]; exact ⟨0, rfl, Or.inr ⟨rfl, fun q => y q.2.1⟩⟩
  · rw [if_pos z]; exact ⟨0, rfl, Or.inr ⟨rfl, fun q => z q.1⟩⟩
theorem lay_act {Λ : Lam} {t u T n : Nat} {I : Nat → CI} {A B : Mem} (h : JT Λ t u T A B) (f : FitW t u n I A B) (p1 p2 : Int32) : ActR Λ t u T A B (FX11_makeLay t p1 p2 A) (FX12_layNow u p1 p2 B) := by
  have hu := h.1
  obtain ⟨hTR, hTV, _⟩ := h.2.2.1
  unfold FX11_makeLay FX12_layNow
  have ref : ∀ (v : Int32) (x y : Option (Int32 × Mem)), (v = -1 ∨ v = -3) → x = some (v, A) → y = some (v, B) → ActR Λ t u T A B x y := fun v x y hv hx hy => ⟨v, A, B, hx, hy, AcE.rf, h, by rcases hv with z | z <;> simp [z]⟩
  rcases card_cases p1 with ⟨c, hc, rfl⟩ | hno
  rotate_left
  · refine ref (-1) _ _ (Or.inl rfl) ?_ ?_
    · rw [isCard_eq, if_neg hno, ob rfl, jb, if_pos rfl]
    · rw [isCardM, if_neg hno, ob rfl, jb, if_pos rfl]
  rw [isCard_nn hc, show FX12_isCard (Int32.ofNat c) = some 1 from by rw [isCardM, nn_int (by omega), if_pos (by omega)], ob rfl, ob rfl, jb, jb, if_neg (by decide), if_neg (by decide)]
  rcases pl_cases p2 with ⟨p, hp, rfl, i1, i2⟩ | ⟨i1, i2⟩
  rotate_left
  · refine ref (-1) _ _ (Or.inl rfl) ?_ ?_
    · rw [ob i1, if_neg (by decide)]
    · rw [ob i2, if_neg (by decide)]
  rw [ob i1, ob i2, if_pos (by decide), if_pos (by decide), jb]
  obtain ⟨v, hv, hv2⟩ := canLay_c (c := c) hTR hc hp
  have hl : nAt (mI B (u + 2)) (Int32.ofNat p) ≤ 52 := cs_le _
  have kB : FX12_cardsAt u (Int32.ofNat p) B = some (Int32.ofNat (nAt (mI B (u + 2)) (Int32.ofNat p))) := cardsAt_eq _ _ _
  rw [ob hv, show (18 : Int32) + Int32.ofNat c = Int32.ofNat (18 + c) from nn_add 18 c, nn_ix (by omega)]
  rcases hv2 with ⟨rfl, z9, zw, z5⟩ | ⟨rfl, hno⟩
  · rw [if_pos (by decide), if_neg (fun y => y z9), gp (inb_nn (by omega) (by decide)), if_neg (fun y => y zw), ob kB, if_pos (show (5 : Int32) ≤ Int32.ofNat (nAt (mI B (u + 2)) (Int32.ofNat p)) from (nn_le (a := 5) (by omega) (by omega)).mpr z5)]
    obtain ⟨⟨A1, a1⟩, ⟨B1, b1⟩⟩ := push_some (kd := 1) h.2.2.2.1 (p := t + 1 + 1) (by omega) hTR
    obtain ⟨hH, ea, eb, eu, ej, el⟩ := h.2.2.2.1.push (kd := 1) (p := t + 1 + 1) (by omega) hTR hTV (by decide) a1 b1
    have hTR1 : TR A1 (t + 1 + 1) (mI B (u + 2)) := hTR.keep (ea _ (by omega)) (ea _ (by omega)) (ea _ (by omega)) (ea _ (by omega))
    have rB : mI B1 (u + 2) = mI B (u + 2) := (eb (u + 2) (by omega)).1
    obtain ⟨A2, a2, a3, a4⟩ := layAway_c (w := t + 179) hTR1 hTV z9 hc hp zw (f.2.1.keep (fun q a b => ea q (by omega))) (by omega)
    have rl1 : RL u n I (mI B (u + 2) 8) (mI B (u + 2) 6) B1 := (h.rl f).keep (fun k _ _ => by rw [rB]) (eu 20 (by decide))
    obtain ⟨B2, b2, b3, b4⟩ := layIt_r rl1 (by rw [rB]; exact hTV) (by rw [rB]; exact z9) hc hp (by rw [rB]; exact zw)
    rw [rB] at b4
    have EB : ∀ q, ¬ RAc u q → Ea B B2 q := fun q hq => (eb q (by unfold RAc at hq; omega)).tr (b3.1 q (by unfold RAc at hq; omega))
    have E15 : ∀ q, q = u + 5 ∨ q = u + 6 → Ea B1 B2 q := fun q hq => b3.1 q (by omega)
    have hE : AcE t u A A2 B B2 := ⟨(ea.up (fun q hq => by unfold CAc; omega)).tr (a3.up (fun q hq => by unfold CAc; omega)), EB, fun k k8 k34 k38 => by rw [b3.2.1 k k34 k38]; exact eu k k8, fun k hk => by rw [b4]; exact lyP_out hc hTV.2.2.1 (by omega), fun k hk => by rw [(E15 (u + 5) (Or.inl rfl)).1]; exact el k hk⟩
    have hTV2 : TV (mI B2 (u + 2)) := by rw [b4]; exact hTV.layP z9 hc hp zw z5
    have hTR2 : TR A2 (t + 1 + 1) (mI B2 (u + 2)) := by rw [b4]; exact a4
    have hl2 : nAt (mI B2 (u + 2)) 2 ≤ 52 := cs_le _
    refine ⟨Int32.ofNat (nAt (mI B2 (u + 2)) 2), A2, B2, ?_, ?_, hE, h.tab hE hTR2 hTV2 (hH.keep (fun q a b => a3 q (by omega)) (E15 _ (Or.inl rfl)).1 (E15 _ (Or.inr rfl)).1 (b3.2.1 8 (by decide) (by decide))), Or.inr (Or.inr ?_)⟩
    · rw [ob a1, ob a2, ob hTR2.2.2.1.count]; rfl
    · rw [ob b1, ob b2, ob (cardsAt_eq _ _ _)]; rfl
    · rw [nn_int (by omega)]; omega
  · rw [if_neg (by decide)]
    refine ref (-3) _ _ (Or.inr rfl) rfl ?_
    by_cases z : mI B (u + 2) 9 = 1
    · rw [if_neg (fun y => y z), gp (inb_nn (by omega) (by decide))]
      by_cases y : mI B (u + 2) (18 + c) = Int32.ofNat p
      · rw [if_neg (fun x => x y), ob kB, if_neg (show ¬ (5 : Int32) ≤ Int32.ofNat (nAt (mI B (u + 2)) (Int32.ofNat p)) from fun x => hno ⟨z, y, (nn_le (a := 5) (by omega) (by omega)).mp x⟩)]
      · rw [if_pos y]
    · rw [if_pos z]
theorem InvL.fitJ {Λ : Lam} {t u T : Nat} {M : Mem} (h : InvL Λ t u T M) : ∃ n I N, FX10_fit (t + 179) (t + 1) (mI M (t + 1) 8) (t + 1 + 1) M = some N ∧ InvL Λ t u T N ∧ mI N (u + 2) = mI M (u + 2) ∧ FitW t u n I N N := by
  have hu := h.1
  obtain ⟨n, I, N, n1, n2, n3, n4, n5, n6⟩ := h.fit
  have e : mI N (u + 2) = mI M (u + 2) := (n2 (u + 2) (by omega)).1
  exact ⟨n, I, N, n1, n3, e, by rw [e]; exact n4, by rw [e]; exact n5, by rw [e]; exact n6⟩
theorem FitW.ref {t u n : Nat} {I : Nat → CI} {A B B' : Mem} (h : FitW t u n I A B) (e : mI B' (u + 2) = mI B (u + 2)) : FitW t u n I A B' := by unfold FitW; rw [e]; exact h
theorem st_lay : St_lay Inv := by
  rintro t u T M p1 p2 ⟨Λ, h⟩
  obtain ⟨n, I, N, n1, n2, n3, n4⟩ := h.fitJ
  unfold FX11_lay
  rw [ob n1]
  exact act_st (fc := FX11_makeLay t p1 p2) (fr := FX12_layNow u p1 p2) n2 (fun B hB e => lay_act hB (n4.ref e) p1 p2)
