/-! ===== going on to the next token: the reference ===== -/
theorem nvP_cap (B : Nat → Nat) : ∀ (n p a a' : Nat), min 1001 a = min 1001 a' → min 1001 (nvP B n p a) = min 1001 (nvP B n p a')
  | 0, _, _, _, h => h
  | n + 1, p, a, a', h => nvP_cap B n (p + 1) _ _ (by omega)
def TpR (B : Nat → Nat) (L u : Nat) (M : Mem) : Prop := L ≤ 400 ∧ mI M u 13 = Int32.ofNat L ∧ ∀ k, k < L → B k < 256 ∧ mI M (u + 9) k = Int32.ofNat (B k)
def tkX (B : Nat → Nat) (L p : Nat) (x : Int64) : Prop := (tkK B L p = 1 → x = wCd (tkW B L p)) ∧ (tkK B L p = 2 → ∃ n, n < 2147483648 ∧ x = Int64.ofNat n ∧ min 1001 n = min 1001 (tkN B L p)) ∧ (tkK B L p = 3 → x = Int64.ofNat (B (tkS B L p)))
def TkR (B : Nat → Nat) (L u : Nat) (M : Mem) (p : Nat) : Prop := mI M u 14 = Int32.ofNat (tkS B L p) ∧ mI M u 15 = Int32.ofNat (tkE B L p) ∧ mI M u 16 = Int32.ofNat (tkK B L p) ∧ tkX B L p (mJ M u 17)
def NxE (u : Nat) (M N : Mem) : Prop := Eo (fun a => a = u) M N ∧ (∀ k, k ≠ 14 → k ≠ 15 → k ≠ 16 → mI N u k = mI M u k) ∧ (∀ k, k ≠ 17 → mJ N u k = mJ M u k) ∧ mR N u = mR M u ∧ mN N u = mN M u
theorem NxE.rf {h : Nat} {M : Mem} : NxE h M M := ⟨Eo.rf, fun _ _ _ _ => rfl, fun _ _ => rfl, rfl, rfl⟩
theorem NxE.tr {h : Nat} {M N K : Mem} (a : NxE h M N) (b : NxE h N K) : NxE h M K := ⟨a.1.tr b.1, fun k h1 h2 h3 => (b.2.1 k h1 h2 h3).trans (a.2.1 k h1 h2 h3), fun k h1 => (b.2.2.1 k h1).trans (a.2.2.1 k h1), b.2.2.2.1.trans a.2.2.2.1, b.2.2.2.2.trans a.2.2.2.2⟩
theorem NxE_s {h : Nat} {M : Mem} (k : Nat) (v : Int32) (hk : k = 14 ∨ k = 15 ∨ k = 16) : NxE h M (sI M h k v) := ⟨Eo_sI rfl, fun j h1 h2 h3 => by rw [mI_sI, if_neg (by omega)], fun _ _ => rfl, rfl, rfl⟩
theorem NxE_j {h : Nat} {M : Mem} (v : Int64) : NxE h M (sJ M h 17 v) := ⟨Eo_sJ rfl, fun j h1 h2 h3 => rfl, fun k hk => by rw [mJ_sJ, if_neg (by omega)], rfl, rfl⟩
theorem TpR.keep {B : Nat → Nat} {L h : Nat} {M N : Mem} (a : TpR B L h M) (e : NxE h M N) : TpR B L h N := ⟨a.1, by rw [e.2.1 13 (by decide) (by decide) (by decide)]; exact a.2.1, fun k hk => by rw [(e.1 (h + 9) (by omega)).1]; exact a.2.2 k hk⟩
def seg (B : Nat → Nat) (s e : Nat) : List Nat := (List.range (e - s)).map (fun i => B (s + i))
theorem seg_s (B : Nat → Nat) {s e : Nat} (h : s ≤ e) : seg B s (e + 1) = seg B s e ++ [B e] := by
  unfold seg
  rw [show e + 1 - s = (e - s) + 1 by omega, List.range_succ, List.map_append]
  show _ ++ [B (s + (e - s))] = _
  rw [show s + (e - s) = e by omega]
theorem seg_len (B : Nat → Nat) (s e : Nat) : (seg B s e).length = e - s := by unfold seg; simp
theorem seg_lt {B : Nat → Nat} {s e : Nat} (h : ∀ i, s ≤ i → i < e → isLt (B i) = true) : allLt (seg B s e) := by
  intro c hc
  unfold seg at hc
  obtain ⟨i, hi, rfl⟩ := List.mem_map.mp hc
  have := h (s + i) (by omega) (by have := List.mem_range.mp hi; omega)
  unfold isLt at this
  simpa using this
theorem jn_sub {a b : Nat} (h : b ≤ a) (ha : a < 9223372036854775808) : Int64.ofNat a - Int64.ofNat b = Int64.ofNat (a - b) := by
  apply Int64.toInt_inj.mp
  rw [j_sub, jn_int ha, jn_int (by omega), jn_int (by omega)]
  · omega
  · rw [jn_int ha, jn_int (by omega)]; omega
  · rw [jn_int ha, jn_int (by omega)]; omega
theorem jn_mul (a b : Nat) : Int64.ofNat a * Int64.ofNat b = Int64.ofNat (a * b) := (Int64.ofNat_mul a b).symm
theorem jn_le {a b : Nat} (ha : a < 9223372036854775808) (hb : b < 9223372036854775808) : (Int64.ofNat a ≤ Int64.ofNat b) ↔ a ≤ b := by
  rw [Int64.le_iff_toInt_le, jn_int ha, jn_int hb]; omega
theorem next_so {B : Nat → Nat} {L u q : Nat} {M : Mem} (T : TpR B L u M) (h7 : mI M u 15 = Int32.ofNat q) (hq : q ≤ L) : So (FX12_next u M) (fun N => NxE u M N ∧ TkR B L u N q) := by
  have hL := T.1
  unfold FX12_next
  refine So_nm ?_
  rw [h7]
  refine So_wl1 (fun N => ∃ p, q ≤ p ∧ p ≤ L ∧ NxE u M N ∧ mI N u 14 = Int32.ofNat p ∧ scan (fun i => decide (B i = 32)) (L - p) p = tkS B L q) (fun N => L - ix (mI N u 14)) ?_ fuel _ ⟨q, Nat.le_refl _, hq, NxE_s 14 _ (by decide), by rw [mI_sI, if_pos ⟨rfl, rfl⟩], rfl⟩ (by unfold fuel; omega)
  rintro N rec ⟨p, hp1, hp2, A1, n6, hsc⟩ hr
  have T1 := T.keep A1
  have n2 := T1.2.1
  rw [n2, n6]
  refine So_jn0C (p = tkS B L q) (fun hps => ?_) (fun j5 hj5 => ?_)
  · refine So_nm (So_nm ?_)
    generalize hM8 : sJ (sI N u 15 (Int32.ofNat p)) u 17 0 = M8
    have A8 : NxE u M M8 := by rw [← hM8]; exact (A1.tr (NxE_s 15 _ (by decide))).tr (NxE_j _)
    have T8 := T.keep A8
    have a14 : mI M8 u 14 = Int32.ofNat p := by rw [← hM8]; simp only [mI_sJ]; rw [mI_sI, if_neg (by simp), n6]
    have a15 : mI M8 u 15 = Int32.ofNat p := by rw [← hM8]; simp only [mI_sJ]; rw [mI_sI, if_pos ⟨rfl, rfl⟩]
    have a17 : mJ M8 u 17 = 0 := by rw [← hM8, mJ_sJ, if_pos ⟨rfl, rfl⟩]
    refine So_jn1R (fun v => v = Int32.ofNat (tkK B L q)) (fun v9 hv9 => So_nm ?_) (fun j10 hj10 => ?_)
    · subst hv9
      generalize hM12 : sI M8 u 16 (Int32.ofNat (tkK B L q)) = M12
      have A12 : NxE u M M12 := by rw [← hM12]; exact A8.tr (NxE_s 16 _ (by decide))
      have b14 : mI M12 u 14 = Int32.ofNat p := by rw [← hM12, mI_sI, if_neg (by simp), a14]
      have b15 : mI M12 u 15 = Int32.ofNat p := by rw [← hM12, mI_sI, if_neg (by simp), a15]
      have b16 : mI M12 u 16 = Int32.ofNat (tkK B L q) := by rw [← hM12, mI_sI, if_pos ⟨rfl, rfl⟩]
      have b17 : mJ M12 u 17 = 0 := by rw [← hM12]; exact a17
      have hk4 : tkK B L q ≤ 3 := by unfold tkK; split; omega; split; omega; split <;> omega
      refine So_jn1R (fun K => NxE u M K ∧ mI K u 14 = Int32.ofNat p ∧ mI K u 16 = Int32.ofNat (tkK B L q) ∧ ((tkK B L q = 0 ∨ tkK B L q = 3) ∧ TkR B L u K q ∨ (tkK B L q = 1 ∨ tkK B L q = 2) ∧ mI K u 15 = Int32.ofNat p ∧ mJ K u 17 = 0)) (fun M13 h13 => ?_) (fun j14 hj14 => ?_)
      · obtain ⟨A13, c14, c16, hc⟩ := h13
        refine So_wl1 (fun K => NxE u M K ∧ mI K u 14 = Int32.ofNat p ∧ mI K u 16 = Int32.ofNat (tkK B L q) ∧ ((tkK B L q = 0 ∨ tkK B L q = 3) ∧ TkR B L u K q ∨ tkK B L q = 2 ∧ mI K u 15 = Int32.ofNat p ∧ mJ K u 17 = 0 ∨ tkK B L q = 1 ∧ ∃ e, p ≤ e ∧ e ≤ L ∧ mI K u 15 = Int32.ofNat e ∧ (∀ i, p ≤ i → i < e → isLt (B i) = true) ∧ scan (fun i => isLt (B i)) (L - e) e = tkE B L q ∧ mJ K u 17 = wCd (seg B p e))) (fun K => L - ix (mI K u 15)) ?_ fuel M13 ⟨A13, c14, c16, ?_⟩ (by unfold fuel; omega)
        · rintro K rec2 ⟨AK, k14, k16, hcK⟩ hr2
          have TK := T.keep AK
          refine So_jn0C ((tkK B L q = 0 ∨ tkK B L q = 3 ∨ tkK B L q = 1) ∧ TkR B L u K q ∨ tkK B L q = 2 ∧ mI K u 15 = Int32.ofNat p ∧ mJ K u 17 = 0) (fun hC => ?_) (fun j19 hj19 => ?_)
          · refine So_wl1 (fun K => NxE u M K ∧ mI K u 14 = Int32.ofNat p ∧ mI K u 16 = Int32.ofNat (tkK B L q) ∧ ((tkK B L q = 0 ∨ tkK B L q = 3 ∨ tkK B L q = 1) ∧ TkR B L u K q ∨ tkK B L q = 2 ∧ ∃ e n, p ≤ e ∧ e ≤ L ∧ n < 20000000 ∧ mI K u 15 = Int32.ofNat e ∧ scan (fun i => isDg (B i)) (L - e) e = tkE B L q ∧ mJ K u 17 = Int64.ofNat n ∧ min 1001 (nvP B (tkE B L q - e) e n) = min 1001 (tkN B L q))) (fun K => L - ix (mI K u 15)) ?_ fuel K ⟨AK, k14, k16, ?_⟩ (by unfold fuel; omega)
            · rintro D rec3 ⟨AD, d14, d16, hcD⟩ hr3
              have TD := T.keep AD
              refine So_jn0C (TkR B L u D q) (fun hC2 => So.ok ⟨AD, hC2⟩) (fun j24 hj24 => ?_)
              rcases hcD with ⟨hk, hT⟩ | ⟨hk, e, n, he1, he2, hn, d15, hsc2, d17, hnv⟩
              · rw [d16, if_pos (show ¬ Int32.ofNat (tkK B L q) = 2 from fun z => by have := (nn_eq (b := 2) (by omega) (by omega)).mp z; omega)]
                exact hj24 hT
              · have hend : e = tkE B L q → TkR B L u D q := fun hee => ⟨by rw [d14, hps], by rw [d15, hee], d16, fun z => by omega, fun _ => ⟨n, by omega, d17, by rw [← hnv, hee, Nat.sub_self]; rfl⟩, fun z => by omega⟩
                rw [d16, if_neg (fun z => z (by rw [hk]; rfl)), TD.2.1, d15]
                by_cases c : e < L
                · rw [if_neg (nle c (by omega)), nn_ix (by omega)]
                  refine So_gd (inb_nn (by omega) (by decide)) ?_
                  obtain ⟨hbe, hbe2⟩ := TD.2.2 e c
                  rw [hbe2, dgM_nn hbe]
                  refine So.bindE rfl ?_
                  by_cases c2 : isDg (B e) = true
                  · rw [if_pos c2, if_neg (by decide)]
                    have c3 : 48 ≤ B e ∧ B e ≤ 57 := by unfold isDg at c2; simpa using c2
                    have hee2 : e < tkE B L q := by
                      rw [← hsc2, scan_yes (fun i => isDg (B i)) c c2]; exact scan_ge _ _ _
                    have hst : nvP B (tkE B L q - e) e n = nvP B (tkE B L q - (e + 1)) (e + 1) (n * 10 + (B e - 48)) := by
                      rw [show tkE B L q - e = (tkE B L q - (e + 1)) + 1 by omega]; rfl
                    refine So_jn1R (fun v => ∃ n', n' < 20000000 ∧ v = Int64.ofNat n' ∧ min 1001 n' = min 1001 (n * 10 + (B e - 48))) (fun v29 hv => So_nm (So_nm ?_)) (fun j30 hj30 => ?_)
                    · obtain ⟨n', hn1, rfl, hn2⟩ := hv
                      have e15 : mI (sJ D u 17 (Int64.ofNat n')) u 15 = Int32.ofNat e := d15
                      rw [e15, s1]
                      refine hr3 _ ⟨(AD.tr (NxE_j _)).tr (NxE_s 15 _ (by decide)), ?_, ?_, Or.inr ⟨hk, e + 1, n', by omega, by omega, hn1, ?_, ?_, ?_, ?_⟩⟩ ?_
                      · rw [mI_sI, if_neg (by simp)]; exact d14
                      · rw [mI_sI, if_neg (by simp)]; exact d16
                      · rw [mI_sI, if_pos ⟨rfl, rfl⟩]
                      · rw [← hsc2, scan_yes (fun i => isDg (B i)) c c2]
                      · rw [mJ_sI, mJ_sJ, if_pos ⟨rfl, rfl⟩]
                      · rw [← hnv, hst]; exact nvP_cap B _ _ _ _ hn2
                      · rw [mI_sI, if_pos ⟨rfl, rfl⟩, d15, nn_ix (by omega), nn_ix (by omega)]; omega
                    · rw [d17]
                      have e1 : (Int64.ofNat n ≤ 1000000) ↔ n ≤ 1000000 := jn_le (b := 1000000) (by omega) (by omega)
                      by_cases c4 : n ≤ 1000000
                      · rw [if_pos (e1.mpr c4)]
                        refine So_gd (inb_nn (by omega) (by decide)) (hj30 _ ⟨n * 10 + (B e - 48), by omega, ?_, rfl⟩)
                        rw [i2j_nn (by omega), show (10 : Int64) = Int64.ofNat 10 from rfl, jn_mul, jn_add, show (48 : Int64) = Int64.ofNat 48 from rfl, jn_sub (by omega) (by omega)]
                        congr 1; omega
                      · rw [if_neg (fun z => c4 (e1.mp z))]
                        exact hj30 _ ⟨n, hn, rfl, by omega⟩
                  · rw [if_neg c2, if_pos rfl]
                    exact hj24 (hend (by rw [← hsc2, scan_no (fun i => isDg (B i)) (by simpa using c2)]))
                · rw [if_pos ((nn_le (by omega) (by omega)).mpr (by omega))]
                  exact hj24 (hend (by rw [← hsc2, scan_end _ (by omega)]))
            · rcases hC with hC | ⟨hk, k15, k17⟩
              · exact Or.inl hC
              · refine Or.inr ⟨hk, p, 0, Nat.le_refl _, hp2, by omega, k15, ?_, k17, ?_⟩
                · unfold tkE tkK at *
                  rw [← hps] at hk ⊢
                  split at hk
                  · omega
                  rename_i z1
                  split at hk
                  · omega
                  rename_i z2
                  split at hk
                  · rename_i z3; rw [if_neg z1, if_neg z2, if_pos z3]
                  · omega
                · unfold tkN; rw [hps]
          · rcases hcK with ⟨hk, hT⟩ | ⟨hk, k15, k17⟩ | ⟨hk, e, he1, he2, k15, hall, hsc2, k17⟩
            · rw [k16, if_pos (show ¬ Int32.ofNat (tkK B L q) = 1 from fun z => by have := (nn_eq (b := 1) (by omega) (by omega)).mp z; omega)]
              exact hj19 (Or.inl ⟨by omega, hT⟩)
            · rw [k16, if_pos (show ¬ Int32.ofNat (tkK B L q) = 1 from fun z => by have := (nn_eq (b := 1) (by omega) (by omega)).mp z; omega)]
              exact hj19 (Or.inr ⟨hk, k15, k17⟩)
            · have hend : e = tkE B L q → TkR B L u K q := fun hee => ⟨by rw [k14, hps], by rw [k15, hee], k16, fun _ => by rw [k17]; unfold tkW seg; rw [hps, hee], fun z => by omega, fun z => by omega⟩
              rw [k16, if_neg (fun z => z (by rw [hk]; rfl)), TK.2.1, k15]
              by_cases c : e < L
              · rw [if_neg (nle c (by omega)), nn_ix (by omega)]
                refine So_gd (inb_nn (by omega) (by decide)) ?_
                obtain ⟨hbe, hbe2⟩ := TK.2.2 e c
                rw [hbe2, ltM_nn hbe]
                refine So.bindE rfl ?_
                by_cases c2 : isLt (B e) = true
                · rw [if_pos c2, if_neg (by decide)]
                  have c3 : 97 ≤ B e ∧ B e ≤ 122 := by unfold isLt at c2; simpa using c2
                  refine So_jn1R (fun v => v = wCd (seg B p (e + 1))) (fun v29 hv => So_nm (So_nm ?_)) (fun j30 hj30 => ?_)
                  · subst hv
                    have e15 : mI (sJ K u 17 (wCd (seg B p (e + 1)))) u 15 = Int32.ofNat e := k15
                    rw [e15, s1]
                    refine hr2 _ ⟨(AK.tr (NxE_j _)).tr (NxE_s 15 _ (by decide)), ?_, ?_, Or.inr (Or.inr ⟨hk, e + 1, by omega, by omega, ?_, fun i hi1 hi2 => ?_, ?_, ?_⟩)⟩ ?_
                    · rw [mI_sI, if_neg (by simp)]; exact k14
                    · rw [mI_sI, if_neg (by simp)]; exact k16
                    · rw [mI_sI, if_pos ⟨rfl, rfl⟩]
                    · by_cases z : i = e
                      · rw [z]; exact c2
                      · exact hall i hi1 (by omega)
                    · rw [← hsc2, scan_yes (fun i => isLt (B i)) c c2]
                    · rw [mJ_sI, mJ_sJ, if_pos ⟨rfl, rfl⟩]
                    · rw [mI_sI, if_pos ⟨rfl, rfl⟩, k15, nn_ix (by omega), nn_ix (by omega)]; omega
                  · rw [k14, nn_sub he1 (by omega)]
                    have e1 : ((10 : Int32) ≤ Int32.ofNat (e - p)) ↔ 10 ≤ e - p := nn_le (a := 10) (by omega) (by omega)
                    by_cases c4 : 10 ≤ e - p
                    · rw [if_pos (e1.mpr c4)]
                      refine hj30 _ ?_
                      unfold wCd; rw [seg_len, if_neg (by omega)]
                    · rw [if_neg (fun z => c4 (e1.mp z))]
                      refine So_gd (inb_nn (by omega) (by decide)) (hj30 _ ?_)
                      have hl := enc_lt (e - p) (seg B p e) (seg_len B p e) (seg_lt hall)
                      have p1 : 32 ^ (e - p) ≤ 32 ^ 9 := Nat.pow_le_pow_right (by decide) (by omega)
                      have e9 : 32 ^ 9 = 35184372088832 := by decide
                      rw [k17]
                      unfold wCd
                      rw [seg_len, seg_len, if_pos (by omega), if_pos (by omega), seg_s B he1, enc_app, i2j_nn (by omega), show (32 : Int64) = Int64.ofNat 32 from rfl, jn_mul, jn_add, show (96 : Int64) = Int64.ofNat 96 from rfl, jn_sub (by omega) (by omega)]
                      congr 1; omega
                · rw [if_neg c2, if_pos rfl]
                  exact hj19 (Or.inl ⟨by omega, hend (by rw [← hsc2, scan_no (fun i => isLt (B i)) (by simpa using c2)])⟩)
              · rw [if_pos ((nn_le (by omega) (by omega)).mpr (by omega))]
                exact hj19 (Or.inl ⟨by omega, hend (by rw [← hsc2, scan_end _ (by omega)])⟩)
        · rcases hc with hc | ⟨hk, c15, c17⟩
          · exact Or.inl hc
          · rcases hk with hk | hk
            · refine Or.inr (Or.inr ⟨hk, p, Nat.le_refl _, hp2, c15, fun i h1 h2 => by omega, ?_, ?_⟩)
              · unfold tkE tkK at *
                rw [← hps] at hk ⊢
                split at hk
                · omega
                rename_i z1
                split at hk
                · rename_i z2; rw [if_neg z1, if_pos z2]
                · split at hk <;> omega
              · rw [c17]; unfold wCd seg; rw [Nat.sub_self]; rfl
            · exact Or.inr (Or.inl ⟨hk, c15, c17⟩)
      · by_cases c3 : tkK B L q = 3
        · rw [b16, if_neg (fun z => z (by rw [c3]; rfl)), b14, nn_ix (by omega)]
          have hpL : p < L := by
            unfold tkK at c3
            rw [← hps] at c3
            by_cases z : L ≤ p
            · rw [if_pos z] at c3; omega
            · omega
          refine So_gd (inb_nn (by omega) (by decide)) (So_nm (So_nm ?_))
          obtain ⟨hbe, hbe2⟩ := (T.keep A12).2.2 p hpL
          have e15 : mI (sJ M12 u 17 ((mI M12 (u + 9) p).toInt64)) u 15 = Int32.ofNat p := b15
          rw [e15, s1]
          refine hj14 _ ⟨(A12.tr (NxE_j _)).tr (NxE_s 15 _ (by decide)), ?_, ?_, Or.inl ⟨Or.inr c3, ?_, ?_, ?_, fun z => by omega, fun z => by omega, fun _ => ?_⟩⟩
          · rw [mI_sI, if_neg (by simp)]; exact b14
          · rw [mI_sI, if_neg (by simp)]; exact b16
          · rw [mI_sI, if_neg (by simp), ← hps]; exact b14
          · rw [mI_sI, if_pos ⟨rfl, rfl⟩]
            unfold tkE tkK at *
            rw [← hps] at c3 ⊢
            split at c3
            · omega
            rename_i z1
            split at c3
            · omega
            rename_i z2
            split at c3
            · omega
            rename_i z3
            rw [if_neg z1, if_neg z2, if_neg z3]
          · rw [mI_sI, if_neg (by simp)]; exact b16
          · rw [mJ_sI, mJ_sJ, if_pos ⟨rfl, rfl⟩, hbe2, i2j_nn (by omega), hps]
        · rw [b16, if_pos (show ¬ Int32.ofNat (tkK B L q) = 3 from fun z => c3 ((nn_eq (b := 3) (by omega) (by omega)).mp z))]
          refine hj14 _ ⟨A12, b14, b16, ?_⟩
          by_cases c0 : tkK B L q = 0
          · refine Or.inl ⟨Or.inl c0, by rw [b14, hps], ?_, b16, fun z => by omega, fun z => by omega, fun z => by omega⟩
            rw [b15]
            have : L ≤ p := by
              unfold tkK at c0
              rw [← hps] at c0
              by_cases z : L ≤ p
              · exact z
              · rw [if_neg z] at c0; split at c0
                · omega
                · split at c0 <;> omega
            unfold tkE; rw [← hps, if_pos this]; congr 1; omega
          · exact Or.inr ⟨by omega, b15, b17⟩
    · rw [a14, T8.2.1]
      by_cases cL : p < L
      · rw [if_pos (show ¬ Int32.ofNat p = Int32.ofNat L from fun z => by have := (nn_eq (by omega) (by omega)).mp z; omega), nn_ix (by omega)]
        refine So_gd (inb_nn (by omega) (by decide)) ?_
        obtain ⟨hbe, hbe2⟩ := T8.2.2 p cL
        rw [hbe2, ltM_nn hbe]
        refine So.bindE rfl ?_
        by_cases c1 : isLt (B p) = true
        · rw [if_pos c1, if_neg (by decide)]
          exact hj10 _ (by unfold tkK; rw [← hps, if_neg (by omega), if_pos c1]; rfl)
        · rw [if_neg c1, if_pos rfl, dgM_nn hbe]
          refine So_gd (inb_nn (by omega) (by decide)) (So.bindE rfl ?_)
          by_cases c2 : isDg (B p) = true
          · rw [if_pos c2, if_neg (by decide)]
            exact hj10 _ (by unfold tkK; rw [← hps, if_neg (by omega), if_neg c1, if_pos c2]; rfl)
          · rw [if_neg c2, if_pos rfl]
            exact hj10 _ (by unfold tkK; rw [← hps, if_neg (by omega), if_neg c1, if_neg c2]; rfl)
      · have : p = L := by omega
        rw [if_neg (fun z => z (by rw [this]))]
        exact hj10 _ (by unfold tkK; rw [← hps, if_pos (by omega)]; rfl)
  · by_cases cL : p < L
    · rw [if_neg (nle cL (by omega)), nn_ix (by omega)]
      refine So_gd (inb_nn (by omega) (by decide)) ?_
      obtain ⟨hbp, hbp2⟩ := T1.2.2 p cL
      rw [hbp2]
      by_cases c : B p = 32
      · rw [if_neg (fun z => z (by rw [c]; rfl))]
        refine So_nm ?_
        rw [s1]
        refine hr _ ⟨p + 1, by omega, by omega, A1.tr (NxE_s 14 _ (by decide)), by rw [mI_sI, if_pos ⟨rfl, rfl⟩], by rw [← hsc, scan_yes (fun i => decide (B i = 32)) cL (by simpa using c)]⟩ ?_
        rw [mI_sI, if_pos ⟨rfl, rfl⟩, n6, nn_ix (by omega), nn_ix (by omega)]; omega
      · rw [if_pos (show ¬ Int32.ofNat (B p) = 32 from fun z => c ((nn_eq (b := 32) (by omega) (by omega)).mp z))]
        exact hj5 (tkS_fix hsc (Or.inr c))
    · rw [if_pos ((nn_le (by omega) (by omega)).mpr (by omega))]
      exact hj5 (tkS_fix hsc (Or.inl (by omega)))
