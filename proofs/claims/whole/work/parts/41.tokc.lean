/-! ===== tokens of the class ===== -/
theorem sI_sI (M : Mem) (a k : Nat) (v w : Int32) : sI (sI M a k v) a k w = sI M a k w := by
  have h : (sI (sI M a k v) a k w).1 = (sI M a k w).1 := by
    funext b j
    show mI (sI (sI M a k v) a k w) b j = mI (sI M a k w) b j
    rw [mI_sI, mI_sI, mI_sI]
    by_cases c : b = a ∧ j = k
    · rw [if_pos c, if_pos c]
    · rw [if_neg c, if_neg c, if_neg c]
  exact Prod.ext h rfl
theorem sI_id (M : Mem) (a k : Nat) (v : Int32) (h : mI M a k = v) : sI M a k v = M := by
  have h : (sI M a k v).1 = M.1 := by
    funext b j
    show mI (sI M a k v) b j = mI M b j
    rw [mI_sI]
    by_cases c : b = a ∧ j = k
    · rw [if_pos c, c.1, c.2, h]
    · rw [if_neg c]
  exact Prod.ext h rfl
theorem lt_nn {b : Nat} (h : b < 256) : FX5_isLetter (Int32.ofNat b) = some (if isLt b = true then 1 else 0) := by
  unfold FX5_isLetter jn1 jn0; simp only []
  have e1 : (Int32.ofNat b < 97) ↔ b < 97 := nn_lt (b := 97) (by omega) (by omega)
  have e2 : (122 < Int32.ofNat b) ↔ 122 < b := nn_lt (a := 122) (by omega) (by omega)
  simp only [e1, e2]
  unfold isLt
  by_cases c1 : b < 97
  · rw [if_pos c1, if_neg (by simp; omega)]; rfl
  · rw [if_neg c1]
    by_cases c2 : 122 < b
    · rw [if_pos c2, if_neg (by simp; omega)]; rfl
    · rw [if_neg c2, if_pos (by simp; omega)]; rfl
theorem dg_nn {b : Nat} (h : b < 256) : FX5_isDigit (Int32.ofNat b) = some (if isDg b = true then 1 else 0) := by
  unfold FX5_isDigit jn1 jn0; simp only []
  have e1 : (Int32.ofNat b < 48) ↔ b < 48 := nn_lt (b := 48) (by omega) (by omega)
  have e2 : (57 < Int32.ofNat b) ↔ 57 < b := nn_lt (a := 57) (by omega) (by omega)
  simp only [e1, e2]
  unfold isDg
  by_cases c1 : b < 48
  · rw [if_pos c1, if_neg (by simp; omega)]; rfl
  · rw [if_neg c1]
    by_cases c2 : 57 < b
    · rw [if_pos c2, if_neg (by simp; omega)]; rfl
    · rw [if_neg c2, if_pos (by simp; omega)]; rfl
theorem ltM_nn {b : Nat} (h : b < 256) : FX12_isSmall (Int32.ofNat b) = some (if isLt b = true then 1 else 0) := lt_nn h
theorem dgM_nn {b : Nat} (h : b < 256) : FX12_isDigit (Int32.ofNat b) = some (if isDg b = true then 1 else 0) := dg_nn h
/-- the tape of the class's reader at h -/
def TpC (B : Nat → Nat) (L h : Nat) (M : Mem) : Prop := L ≤ 400 ∧ mI M h 2 = Int32.ofNat L ∧ ∀ k, k < L → B k < 256 ∧ mI M (h + 1) k = Int32.ofNat (B k)
def tkV (B : Nat → Nat) (L p : Nat) : Int32 := if tkK B L p = 1 then wIx (tkW B L p) else if tkK B L p = 2 then Int32.ofNat (min 1001 (tkN B L p)) else Int32.ofNat (B (tkS B L p))
def TkC (B : Nat → Nat) (L h : Nat) (M : Mem) (p : Nat) : Prop := mI M h 6 = Int32.ofNat (tkS B L p) ∧ mI M h 7 = Int32.ofNat (tkE B L p) ∧ mI M h 8 = Int32.ofNat (tkK B L p) ∧ (tkK B L p ≠ 0 → mI M h 9 = tkV B L p)
/-- what going on to a token may change -/
def AdE (h : Nat) (M N : Mem) : Prop := Eo (fun a => a = h) M N ∧ (∀ k, k ≠ 6 → k ≠ 7 → k ≠ 8 → k ≠ 9 → mI N h k = mI M h k) ∧ mJ N h = mJ M h ∧ mR N h = mR M h ∧ mN N h = mN M h
theorem AdE.rf {h : Nat} {M : Mem} : AdE h M M := ⟨Eo.rf, fun _ _ _ _ _ => rfl, rfl, rfl, rfl⟩
theorem AdE.tr {h : Nat} {M N K : Mem} (a : AdE h M N) (b : AdE h N K) : AdE h M K := ⟨a.1.tr b.1, fun k h1 h2 h3 h4 => (b.2.1 k h1 h2 h3 h4).trans (a.2.1 k h1 h2 h3 h4), b.2.2.1.trans a.2.2.1, b.2.2.2.1.trans a.2.2.2.1, b.2.2.2.2.trans a.2.2.2.2⟩
theorem AdE_s {h : Nat} {M : Mem} (k : Nat) (v : Int32) (hk : k = 6 ∨ k = 7 ∨ k = 8 ∨ k = 9) : AdE h M (sI M h k v) := ⟨Eo_sI rfl, fun j h1 h2 h3 h4 => by rw [mI_sI, if_neg (by omega)], rfl, rfl, rfl⟩
theorem TpC.keep {B : Nat → Nat} {L h : Nat} {M N : Mem} (a : TpC B L h M) (e : AdE h M N) : TpC B L h N := ⟨a.1, by rw [e.2.1 2 (by decide) (by decide) (by decide) (by decide)]; exact a.2.1, fun k hk => by rw [(e.1 (h + 1) (by omega)).1]; exact a.2.2 k hk⟩
theorem wordAt_so {B : Nat → Nat} {L h s e : Nat} {M : Mem} (T : TpC B L h M) (h6 : mI M h 6 = Int32.ofNat s) (h7 : mI M h 7 = Int32.ofNat e) (hs : s ≤ e) (he : e ≤ L) : FX5_wordAt h M = some (wIx ((List.range (e - s)).map (fun i => B (s + i)))) := by
  obtain ⟨hL, hl, hb⟩ := T
  apply So.eq
  unfold FX5_wordAt
  refine So_nm ?_
  rw [h6, h7, nn_sub hs (by omega)]
  generalize hw : (List.range (e - s)).map (fun i => B (s + i)) = w
  have wl : w.length = e - s := by rw [← hw]; simp
  have wg : ∀ k, k < e - s → w.getD k 0 = B (s + k) := fun k hk => by
    rw [← hw, List.getD_eq_getElem?_getD, List.getElem?_map, List.getElem?_range hk]; rfl
  refine So_wl3 (fun a b c => ∃ (i j : Nat) (m : Option Nat), i ≤ 144 ∧ j ≤ i ∧ c = Int32.ofNat i ∧ a = Int32.ofNat j ∧ b = (match m with | some k => Int32.ofNat k | none => -1) ∧ (∀ k, m = some k → k ≤ w.length) ∧ wdL w (wdN.drop i) j m = wdI w WL 0) (fun _ _ c => 144 - ix c) ?_ fuel 0 0 0 ⟨0, 0, some 0, by omega, by omega, rfl, rfl, rfl, fun k hk => by cases hk; omega, wdL_eq w⟩ (by decide)
  rintro a b c rec ⟨i, j, m, hi, hj, rfl, rfl, hbm, hm, hd⟩ hr
  by_cases hi2 : i = 144
  · subst hi2
    rw [if_pos (by decide)]
    refine So.ok ?_
    rw [List.drop_eq_nil_of_le (by rw [wdN_len]; omega)] at hd
    unfold wIx
    rw [← hd]; rfl
  · have hi3 : i < 144 := by omega
    rw [if_neg (show ¬ (144 : Int32) ≤ Int32.ofNat i from nle (n := 144) hi3 (by decide))]
    refine So_gd (inb_nn hi3 (by decide)) (So_nm (So_jn2 ?_))
    rw [nn_ix (by omega), wdC_eq hi3]
    have hc : wdN.drop i = wdN.getD i 0 :: wdN.drop (i + 1) := by
      have : i < wdN.length := by rw [wdN_len]; exact hi3
      rw [List.drop_eq_getElem_cons this, List.getD_eq_getElem?_getD, List.getElem?_eq_getElem this]; rfl
    have hsm : wdN.getD i 0 < 256 := by
      have : i < wdN.length := by rw [wdN_len]; exact hi3
      rw [List.getD_eq_getElem?_getD, List.getElem?_eq_getElem this]
      exact wdN_small _ (List.getElem_mem _)
    rw [hc, wdL_cons] at hd
    generalize wdN.getD i 0 = x at hd hsm
    have mm : 144 - ix (Int32.ofNat (i + 1)) < 144 - ix (Int32.ofNat i) := by rw [nn_ix (by omega), nn_ix (by omega)]; omega
    by_cases c32 : x = 32
    · rw [if_neg (show ¬ ¬ Int32.ofNat x = 32 from fun q => q (by rw [c32]; rfl))]
      rw [if_pos c32] at hd
      by_cases cm : m = some w.length
      · rw [if_pos cm] at hd
        have : b = Int32.ofNat (e - s) := by rw [hbm, cm, wl]
        rw [if_neg (fun q => q this)]
        refine So.ok ?_
        unfold wIx; rw [← hd]
      · rw [if_neg cm] at hd
        have : ¬ b = Int32.ofNat (e - s) := fun q => cm (by
          rw [hbm] at q
          cases m with
          | none =>
            have := congrArg Int32.toInt q
            rw [nn_int (by omega), show (-1 : Int32).toInt = -1 from rfl] at this; omega
          | some k =>
            have hk := hm k rfl
            have : k = e - s := (nn_eq (by omega) (by omega)).mp q
            rw [this, wl])
        rw [if_pos this]
        refine So_nm (So_nm ?_)
        rw [s1, s1]
        exact hr _ _ _ ⟨i + 1, j + 1, some 0, by omega, by omega, rfl, rfl, rfl, fun k hk => by cases hk; omega, hd⟩ mm
    · rw [if_pos (show ¬ Int32.ofNat x = 32 from fun q => c32 ((nn_eq (b := 32) (by omega) (by omega)).mp q))]
      rw [if_neg c32] at hd
      refine So_jn1R (fun v => v = (match (match m with | some k => if k < w.length ∧ w.getD k 0 = x then some (k + 1) else none | none => none : Option Nat) with | some k => Int32.ofNat k | none => -1)) (fun v hv => So_nm ?_) (fun j15 hj15 => So_jn0 ?_)
      · rw [s1]
        refine hr _ _ _ ⟨i + 1, j, _, by omega, by omega, rfl, rfl, hv, fun k hk => ?_, hd⟩ mm
        cases m with
        | none => cases hk
        | some k' =>
          simp only [] at hk
          split at hk
          · cases hk; omega
          · cases hk
      · cases m with
        | none =>
          rw [hbm, if_pos (by decide)]
          exact hj15 _ rfl
        | some k =>
          have hk := hm k rfl
          rw [hbm]
          simp only []
          rw [if_neg (show ¬ Int32.ofNat k < 0 by rw [Int32.lt_iff_toInt_lt, nn_int (by omega), show (0 : Int32).toInt = 0 from rfl]; omega)]
          by_cases ck : k < e - s
          · rw [if_neg (nle ck (by omega)), nn_add, nn_ix (by omega)]
            refine So_gd (inb_nn (by omega) (by decide)) ?_
            rw [(hb (s + k) (by omega)).2]
            have hbs := (hb (s + k) (by omega)).1
            by_cases cx : B (s + k) = x
            · rw [if_neg (fun q => q (by rw [cx])), s1]
              refine hj15 _ ?_
              dsimp only
              rw [if_pos ⟨by omega, by rw [wg k ck, cx]⟩]
            · rw [if_pos (fun q => cx ((nn_eq (by omega) (by omega)).mp q))]
              refine hj15 _ ?_
              dsimp only
              rw [if_neg (fun q => cx (by rw [← wg k ck]; exact q.2))]
          · rw [if_pos ((nn_le (by omega) (by omega)).mpr (by omega))]
            refine hj15 _ ?_
            dsimp only
            rw [if_neg (fun q => by omega)]
theorem numberAt_so {B : Nat → Nat} {L h s e : Nat} {M : Mem} (T : TpC B L h M) (h6 : mI M h 6 = Int32.ofNat s) (h7 : mI M h 7 = Int32.ofNat e) (hs : s ≤ e) (he : e ≤ L) (hd : ∀ i, s ≤ i → i < e → isDg (B i) = true) : FX5_numberAt h M = some (Int32.ofNat (min 1001 (nvP B (e - s) s 0))) := by
  obtain ⟨hL, hl, hb⟩ := T
  have cap : ∀ (n p a a' : Nat), min 1001 a = min 1001 a' → min 1001 (nvP B n p a) = min 1001 (nvP B n p a') := by
    intro n
    induction n with
    | zero => intro p a a' h; exact h
    | succ n ih =>
      intro p a a' h
      unfold nvP
      exact ih (p + 1) _ _ (by omega)
  apply So.eq
  unfold FX5_numberAt
  refine So_nm ?_
  rw [h6, h7]
  refine So_wl2 (fun a b => ∃ i n : Nat, s ≤ i ∧ i ≤ e ∧ b = Int32.ofNat i ∧ a = Int32.ofNat n ∧ n ≤ 1001 ∧ min 1001 (nvP B (e - i) i n) = min 1001 (nvP B (e - s) s 0)) (fun _ b => e - ix b) ?_ fuel 0 _ ⟨s, 0, by omega, hs, rfl, rfl, by omega, rfl⟩ (by rw [nn_ix (by omega)]; unfold fuel; omega)
  rintro a b rec ⟨i, n, hi1, hi2, rfl, rfl, hn, hv⟩ hr
  refine So_jn0 ?_
  by_cases c : i = e
  · subst c
    rw [if_pos (Int32.le_refl _)]
    refine So.ok ?_
    rw [← hv, Nat.sub_self]
    show _ = Int32.ofNat (min 1001 n)
    rw [Nat.min_eq_right hn]
  · rw [if_neg (nle (show i < e by omega) (by omega)), if_neg (show ¬ (400 : Int32) ≤ Int32.ofNat i from nle (n := 400) (by omega) (by decide))]
    refine So_gd (inb_nn (by omega) (by decide)) (So_nm (So_nm ?_))
    have hbi := hb i (by omega)
    have hdi := hd i hi1 (by omega)
    unfold isDg at hdi
    simp only [decide_eq_true_eq] at hdi
    rw [nn_ix (by omega), hbi.2, s1, show (10 : Int32) = Int32.ofNat 10 from rfl, nn_mul, nn_add, show (48 : Int32) = Int32.ofNat 48 from rfl, nn_sub (by omega) (by omega)]
    refine hr _ _ ⟨i + 1, min 1001 (n * 10 + (B i - 48)), by omega, by omega, rfl, ?_, by omega, ?_⟩ (by rw [nn_ix (by omega), nn_ix (by omega)]; omega)
    · unfold imn
      have e1 : (Int32.ofNat (n * 10 + B i - 48) < 1001) ↔ n * 10 + B i - 48 < 1001 := nn_lt (b := 1001) (by omega) (by omega)
      by_cases c2 : n * 10 + B i - 48 < 1001
      · rw [if_pos (e1.mpr c2)]; congr 1; omega
      · rw [if_neg (fun q => c2 (e1.mp q)), show (1001 : Int32) = Int32.ofNat 1001 from rfl]; congr 1; omega
    · rw [← hv, show e - i = (e - (i + 1)) + 1 by omega]
      show _ = min 1001 (nvP B (e - (i + 1)) (i + 1) (n * 10 + (B i - 48)))
      exact cap _ _ _ _ (by omega)
