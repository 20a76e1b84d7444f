/-! ===== the starter to ask for ===== -/
def tb (x : Int32) (f : Nat) : Bool := decide (((x >>> (Int32.ofNat f &&& 31)) &&& 1) = 1)
theorem is_tb (x : Int32) (f : Nat) : FX12_is x (Int32.ofNat f) = some (if tb x f = true then 1 else 0) := by
  show (if ¬ ((x >>> (Int32.ofNat f &&& 31)) &&& 1) = 1 then gd (isB 0) (some 0) else gd (isB 1) (some 1)) = _
  unfold tb
  by_cases z : ((x >>> (Int32.ofNat f &&& 31)) &&& 1) = 1
  · rw [if_neg (fun q => q z), decide_eq_true z]; rfl
  · rw [if_pos z, decide_eq_false z]; rfl
def mx (h : Nat → Nat) : Nat → Nat
  | 0 => 0
  | n + 1 => max (mx h n) (h n)
theorem mx_ge {h : Nat → Nat} {n i : Nat} (hi : i < n) : h i ≤ mx h n := by
  induction n with
  | zero => omega
  | succ n ih =>
    show h i ≤ max (mx h n) (h n)
    by_cases z : i = n
    · rw [z]; omega
    · have := ih (by omega); omega
theorem mx_le {h : Nat → Nat} {b : Nat} : ∀ {n : Nat}, (∀ i, i < n → h i ≤ b) → mx h n ≤ b
  | 0, _ => Nat.zero_le _
  | n + 1, e => by
    have h1 := mx_le (n := n) (fun i hi => e i (by omega))
    have h2 := e n (by omega)
    show max (mx h n) (h n) ≤ b
    omega
def cGe (T : Nat → Bool) (k : Nat → Nat) (f : Nat) : Nat := if T f = true then sm (fun g => if f ≤ g ∧ T g = true ∧ k g = k f then 1 else 0) 15 else 0
def cAl (T : Nat → Bool) (k : Nat → Nat) (f : Nat) : Nat := if T f = true then sm (fun g => if T g = true ∧ k g = k f then 1 else 0) 15 else 0
theorem least_ex {p : Nat → Prop} (n : Nat) (h : p n) : ∃ m, m ≤ n ∧ p m ∧ ∀ i, i < m → ¬ p i := by
  induction n using Nat.strongRecOn with
  | ind n ih =>
    by_cases z : ∃ m, m < n ∧ p m
    · obtain ⟨m, a, b⟩ := z
      obtain ⟨x, x1, x2, x3⟩ := ih m a b
      exact ⟨x, by omega, x2, x3⟩
    · exact ⟨n, Nat.le_refl _, h, fun i hi q => z ⟨i, hi, q⟩⟩
theorem mx_al {T : Nat → Bool} {k : Nat → Nat} : mx (cGe T k) 15 = mx (cAl T k) 15 := by
  apply Nat.le_antisymm
  · refine mx_le (fun f hf => Nat.le_trans ?_ (mx_ge (h := cAl T k) hf))
    unfold cGe cAl
    split
    · refine sm_lt (fun g _ => ?_)
      show (if f ≤ g ∧ T g = true ∧ k g = k f then 1 else 0) ≤ (if T g = true ∧ k g = k f then 1 else 0)
      by_cases z : f ≤ g ∧ T g = true ∧ k g = k f
      · rw [if_pos z, if_pos z.2]; exact Nat.le_refl _
      · rw [if_neg z]; exact Nat.zero_le _
    · exact Nat.le_refl _
  · refine mx_le (fun f hf => ?_)
    by_cases z : T f = true
    · obtain ⟨m, m1, m2, m3⟩ := least_ex (p := fun g => T g = true ∧ k g = k f) f ⟨z, rfl⟩
      refine Nat.le_trans ?_ (mx_ge (h := cGe T k) (show m < 15 by omega))
      unfold cGe cAl
      rw [if_pos z, if_pos m2.1]
      refine Nat.le_of_eq (sm_cg (fun g _ => ?_))
      show (if T g = true ∧ k g = k f then 1 else 0) = (if m ≤ g ∧ T g = true ∧ k g = k m then 1 else 0)
      by_cases y : T g = true ∧ k g = k f
      · rw [if_pos y, if_pos ⟨Nat.le_of_not_lt (fun q => m3 g q y), y.1, by rw [y.2, m2.2]⟩]
      · rw [if_neg y, if_neg (fun q => y ⟨q.2.1, by rw [q.2.2, m2.2]⟩)]
    · unfold cAl
      rw [if_neg z]; exact Nat.zero_le _
theorem cAl_le {T : Nat → Bool} {k : Nat → Nat} (f : Nat) : cAl T k f ≤ 15 := by
  unfold cAl
  split
  · exact sm_le (b := 1) (fun i _ => by show (if _ then 1 else 0) ≤ 1; split <;> omega)
  · omega
theorem cGe_le {T : Nat → Bool} {k : Nat → Nat} (f : Nat) : cGe T k f ≤ 15 := by
  unfold cGe
  split
  · exact sm_le (b := 1) (fun i _ => by show (if _ then 1 else 0) ≤ 1; split <;> omega)
  · omega
theorem imx_nn {a b : Nat} (ha : a < 2147483648) (hb : b < 2147483648) : imx (Int32.ofNat a) (Int32.ofNat b) = Int32.ofNat (max a b) := by
  unfold imx
  have e : (Int32.ofNat a < Int32.ofNat b) ↔ a < b := nn_lt ha hb
  by_cases z : a < b
  · rw [if_pos (e.mpr z), show max a b = b by omega]
  · rw [if_neg (fun q => z (e.mp q)), show max a b = a by omega]
/-- most alike, by the class -/
theorem mostAlike_c {b Y c : Nat} {x : Int32} {V : Nat → Nat} {C : Nat → Nat → Nat} {P : Nat → Bool} {N : Mem} (h : FSr N b 15 V Y C P) (hC : ∀ k i, C k i ≤ 99) (hc : c < 52) (hPc : P c = false) : FX3_mostAlike b x (Int32.ofNat c) N = some (Int32.ofNat (mx (cGe (tb x) (fun m => cA V Y C P m c)) 15)) := by
  apply So.eq
  unfold FX3_mostAlike
  have hk : ∀ m, m < 15 → mI N (b + 2 + m) c = Int32.ofNat (cA V Y C P m c) := fun m hm => by rw [(h.1 m hm).1 c hc, hPc]; rfl
  have hcl := fun m => cA_le (V := V) (Y := Y) (P := P) hC m c
  generalize hK : (fun m => cA V Y C P m c) = k
  have ek : ∀ m, cA V Y C P m c = k m := fun m => by rw [← hK]
  simp only [ek] at hk hcl
  refine So_wl2 (fun v1 v2 => ∃ f, f ≤ 15 ∧ v2 = Int32.ofNat f ∧ v1 = Int32.ofNat (mx (cGe (tb x) k) f)) (fun _ v2 => 15 - ix v2) ?_ fuel 0 0 ⟨0, by omega, rfl, rfl⟩ (by unfold fuel; omega)
  rintro v1 v2 rec ⟨f, hf, rfl, rfl⟩ hr
  refine So_jn0 ?_
  by_cases z : f = 15
  · subst z
    rw [if_pos (show (15 : Int32) ≤ Int32.ofNat 15 by decide)]
    exact So.ok rfl
  rw [if_neg (show ¬ (15 : Int32) ≤ Int32.ofNat f from nle (n := 15) (by omega) (by decide))]
  refine So.bindE (isCard_nn hc) ?_
  rw [if_neg (by decide)]
  have hm : mx (cGe (tb x) k) f ≤ 15 := mx_le (fun i _ => cGe_le i)
  have hge := cGe_le (T := tb x) (k := k) f
  refine So_wl2 (fun v8 v9 => ∃ g, f ≤ g ∧ g ≤ 15 ∧ v9 = Int32.ofNat g ∧ v8 = Int32.ofNat (if tb x f = true then sm (fun g => if f ≤ g ∧ tb x g = true ∧ k g = k f then 1 else 0) g else 0)) (fun _ v9 => 15 - ix v9) ?_ fuel 0 (Int32.ofNat f) ⟨f, by omega, by omega, rfl, ?_⟩ (by unfold fuel; omega)
  rotate_left
  · rw [sm_0 (fun i hi => if_neg (fun q => by omega))]
    split <;> rfl
  rintro v8 v9 rec2 ⟨g, fg, g15, rfl, rfl⟩ hr2
  refine So_jn0C (g = 15 ∨ ¬ tb x f = true) (fun q => So_nm (So_nm ?_)) (fun j hj => ?_)
  · have e : (if tb x f = true then sm (fun g => if f ≤ g ∧ tb x g = true ∧ k g = k f then 1 else 0) g else 0) = cGe (tb x) k f := by
      unfold cGe
      rcases q with q | q
      · rw [q]
      · rw [if_neg q, if_neg q]
    rw [e, imx_nn (by omega) (by omega), s1]
    exact hr _ _ ⟨f + 1, by omega, rfl, rfl⟩ (by rw [nn_ix (by omega), nn_ix (by omega)]; omega)
  by_cases zg : g = 15
  · rw [zg, if_pos (show (15 : Int32) ≤ Int32.ofNat 15 by decide)]; exact hj (Or.inl zg)
  rw [if_neg (show ¬ (15 : Int32) ≤ Int32.ofNat g from nle (n := 15) (by omega) (by decide))]
  have tbi : ∀ i, (((x >>> (Int32.ofNat i &&& 31)) &&& 1) = 1) ↔ tb x i = true := fun i => by unfold tb; rw [decide_eq_true_eq]
  by_cases y : tb x f = true
  rotate_left
  · rw [if_pos (fun q => y ((tbi f).mp q))]; exact hj (Or.inr y)
  rw [if_neg (fun q => q ((tbi f).mpr y)), if_pos y]
  refine So_jn1R (fun v => v = Int32.ofNat (sm (fun g => if f ≤ g ∧ tb x g = true ∧ k g = k f then 1 else 0) (g + 1))) (fun v hv => So_nm ?_) (fun j2 hj2 => ?_)
  · rw [s1]
    exact hr2 _ _ ⟨g + 1, by omega, by omega, rfl, by rw [if_pos y]; exact hv⟩ (by rw [nn_ix (by omega), nn_ix (by omega)]; omega)
  by_cases w : tb x g = true
  rotate_left
  · rw [if_pos (fun q => w ((tbi g).mp q))]
    exact hj2 _ (by rw [sm_s, if_neg (fun q => w q.2.1), Nat.add_zero])
  rw [if_neg (fun q => q ((tbi g).mpr w)), nn_ix (show g < 2147483648 by omega), nn_ix (show c < 2147483648 by omega), nn_ix (show f < 2147483648 by omega), show b + 1 + 1 + 1 * g = b + 2 + g by omega, show b + 1 + 1 + 1 * f = b + 2 + f by omega, hk g (by omega), hk f (by omega)]
  have e : (Int32.ofNat (k g) = Int32.ofNat (k f)) ↔ k g = k f := nn_eq (by have := hcl g; omega) (by have := hcl f; omega)
  refine So_gd (inb_nn (by omega) (by decide)) (So_gd (inb_nn hc (by decide)) (So_gd (inb_nn (by omega) (by decide)) (So_gd (inb_nn hc (by decide)) (So.ite (fun q => hj2 _ ?_) (fun q => So_nm (hj2 _ ?_))))))
  · rw [sm_s, if_neg (fun a => q (e.mpr a.2.2)), Nat.add_zero]
  · rw [sm_s, if_pos ⟨fg, w, e.mp (Classical.not_not.mp q)⟩, s1]
/-- most alike, by the reference -/
def S7 (u : Nat) (V : Nat → Nat) (C : Nat → Nat → Nat) (P : Nat → Bool) (M0 K : Mem) : Prop := (Eo (fun q => q = u ∨ q = u + 18 ∨ (u + 20 ≤ q ∧ q < u + 32) ∨ q = u + 37) M0 K ∧ ∀ k, k ≠ 34 → k ≠ 38 → mI K u k = mI M0 u k) ∧ LC u V C K ∧ ∀ k, k < 6 → mI K (u + 31) k = Int32.ofNat (fC P k)
theorem S6.s7 {u : Nat} {V : Nat → Nat} {C : Nat → Nat → Nat} {P : Nat → Bool} {M0 K : Mem} (h : S6 u V C P M0 K) : S7 u V C P M0 K := ⟨⟨h.1.1.up (fun q hq => by omega), h.1.2.1⟩, h.2⟩
theorem S7.s6 {u : Nat} {V : Nat → Nat} {C : Nat → Nat → Nat} {P : Nat → Bool} {M0 K : Mem} (h : S7 u V C P M0 K) : S6 u V C P K K := ⟨CnE.rf, h.2⟩
theorem S7.tr {u : Nat} {V : Nat → Nat} {C : Nat → Nat → Nat} {P : Nat → Bool} {M0 K L : Mem} (h : S7 u V C P M0 K) (h2 : S6 u V C P K L) : S7 u V C P M0 L := ⟨⟨h.1.1.tr (h2.1.1.up (fun q hq => by omega)), fun k a b => (h2.1.2.1 k a b).trans (h.1.2 k a b)⟩, h2.2⟩
theorem S7.row {u : Nat} {V : Nat → Nat} {C : Nat → Nat → Nat} {P : Nat → Bool} {M0 K : Mem} (h : S7 u V C P M0 K) : mI K (u + 2) = mI M0 (u + 2) := (h.1.1 (u + 2) (by omega)).1
theorem mostAlike_r {u Y c : Nat} {x : Int32} {V : Nat → Nat} {C : Nat → Nat → Nat} {P : Nat → Bool} {M0 M : Mem} (h : S7 u V C P M0 M) (h6 : (cs P).length = 6) (hc : c < 52) (hV : ∀ c, V c ≤ 31) (hC : ∀ k i, C k i ≤ 99) (hY : mI M0 (u + 2) 7 = Int32.ofNat Y) (hY2 : Y ≤ 31) : So (FX12_mostAlike u x (Int32.ofNat c) M) (fun r => S7 u V C P M0 r.2 ∧ r.1 = Int32.ofNat (mx (cAl (tb x) (fun m => cA V Y C P m c)) 15)) := by
  have hcl := fun m => cA_le (V := V) (Y := Y) (P := P) hC m c
  unfold FX12_mostAlike
  refine loop_for 15 (by decide) (fun f N => S7 u V C P M0 N ∧ ∀ g, g < f → mI N (u + 37) g = if tb x g = true then Int32.ofNat (cA V Y C P g c) else -1) M ⟨h, fun g hg => absurd hg (by omega)⟩ (fun N rec hN => ?_) (fun f N rec hf hN hr => ?_)
  rotate_left
  · refine So.ite (fun z => absurd z (nle hf (by decide))) (fun _ => ?_)
    obtain ⟨n1, n2⟩ := hN
    obtain ⟨p1, p2, p3⟩ := pix_m f hf
    have h4 := Qm_4 (P := P) h6 p1 p2
    refine So.bind (takeFourth_r n1.s6 h6 hf) (fun K hK => So_nm ?_)
    have k1 : S6 u V C P N (sI K (u + 27) 4 (Int32.ofNat c)) := (n1.s6.keep (hK.1.up (fun q hq => by omega))).keep (Eo_sI (by omega))
    have k37 : mI (sI K (u + 27) 4 (Int32.ofNat c)) (u + 37) = mI N (u + 37) := by
      funext j; rw [mI_n1 (by omega), (hK.1 (u + 37) (by omega)).1]
    refine So.bindE (is_tb x f) (So_jn2R (fun v L => v = (if tb x f = true then Int32.ofNat (cA V Y C P f c) else -1) ∧ S6 u V C P N L ∧ mI L (u + 37) = mI N (u + 37)) (fun v L hL => So_gd (inb_nn hf (by decide)) (So_nm (So_nm (hr _ ⟨?_, fun g hg => ?_⟩)))) (fun j hj => ?_))
    · have l1 := n1.tr hL.2.1
      refine ⟨⟨l1.1.1.tr (Eo_sI (Or.inr (Or.inr (Or.inr rfl)))), fun k a b => by rw [mI_n1 (by omega)]; exact l1.1.2 k a b⟩, l1.2.1.keep (fun j a b => by funext k; rw [mI_n1 (by omega)]), fun k hk => by rw [mI_n1 (by omega)]; exact l1.2.2 k hk⟩
    · rw [nn_ix (by omega)]
      by_cases y : g = f
      · rw [y, mI_e, hL.1]
      · rw [mI_n2 y, hL.2.2]; exact n2 g (by omega)
    · by_cases y : tb x f = true
      · rw [if_pos y, if_neg (by decide)]
        refine So_bdM (k1.five (Q := Qm P (pa f) (pb f)) (c := c) (fun k hk => by rw [mI_n2 (by omega)]; exact hK.2 k hk) h4 hV (by rw [n1.row]; exact hY) hY2 hc mI_e) (fun v L hL => hj _ _ ⟨?_, k1.keep (hL.1.up (fun q hq => by omega)), ?_⟩)
        · rw [if_pos y]; exact hL.2
        · rw [(hL.1 (u + 37) (by omega)).1, k37]
      · rw [if_neg y, if_pos rfl]
        exact hj _ _ ⟨by rw [if_neg y], k1, k37⟩
  refine So.ite (fun _ => ?_) (fun z => absurd z (ge_self 15))
  obtain ⟨n1, n2⟩ := hN
  generalize hK : (fun m => cA V Y C P m c) = k
  have ek : ∀ m, cA V Y C P m c = k m := fun m => by rw [← hK]
  simp only [ek] at n2 hcl
  refine So_wl2 (fun v5 v6 => ∃ f, f ≤ 15 ∧ v6 = Int32.ofNat f ∧ v5 = Int32.ofNat (mx (cAl (tb x) k) f)) (fun _ v6 => 15 - ix v6) ?_ fuel 0 0 ⟨0, by omega, rfl, rfl⟩ (by unfold fuel; omega)
  rintro v5 v6 rec ⟨f, hf, rfl, rfl⟩ hr
  by_cases z : f = 15
  · subst z
    rw [if_pos (show (15 : Int32) ≤ Int32.ofNat 15 by decide)]
    exact So.ok ⟨n1, rfl⟩
  rw [if_neg (show ¬ (15 : Int32) ≤ Int32.ofNat f from nle (n := 15) (by omega) (by decide))]
  have hm : mx (cAl (tb x) k) f ≤ 15 := mx_le (fun i _ => cAl_le i)
  have hal := cAl_le (T := tb x) (k := k) f
  have neg1 : ∀ a : Nat, a ≤ 400000 → ¬ Int32.ofNat a = -1 := fun a ha q => by
    have := congrArg Int32.toInt q
    rw [nn_int (by omega), show (-1 : Int32).toInt = -1 from rfl] at this; omega
  refine So_wl2 (fun v9 v10 => ∃ g, g ≤ 15 ∧ v10 = Int32.ofNat g ∧ v9 = Int32.ofNat (if tb x f = true then sm (fun g => if tb x g = true ∧ k g = k f then 1 else 0) g else 0)) (fun _ v10 => 15 - ix v10) ?_ fuel 0 0 ⟨0, by omega, rfl, by split <;> rfl⟩ (by unfold fuel; omega)
  rintro v9 v10 rec2 ⟨g, g15, rfl, rfl⟩ hr2
  by_cases zg : g = 15
  · subst zg
    rw [if_pos (show (15 : Int32) ≤ Int32.ofNat 15 by decide)]
    have e : (if tb x f = true then sm (fun g => if tb x g = true ∧ k g = k f then 1 else 0) 15 else 0) = cAl (tb x) k f := rfl
    rw [e]
    have el : (Int32.ofNat (cAl (tb x) k f) ≤ Int32.ofNat (mx (cAl (tb x) k) f)) ↔ cAl (tb x) k f ≤ mx (cAl (tb x) k) f := nn_le (by omega) (by omega)
    refine So_jn1R (fun v => v = Int32.ofNat (mx (cAl (tb x) k) (f + 1))) (fun v hv => So_nm ?_) (fun j hj => So.ite (fun q => hj _ ?_) (fun q => hj _ ?_))
    · rw [s1]
      exact hr _ _ ⟨f + 1, by omega, rfl, hv⟩ (by rw [nn_ix (by omega), nn_ix (by omega)]; omega)
    · have := el.mp q
      show _ = Int32.ofNat (max (mx (cAl (tb x) k) f) (cAl (tb x) k f))
      rw [show max (mx (cAl (tb x) k) f) (cAl (tb x) k f) = mx (cAl (tb x) k) f by omega]
    · have : ¬ cAl (tb x) k f ≤ mx (cAl (tb x) k) f := fun w => q (el.mpr w)
      show _ = Int32.ofNat (max (mx (cAl (tb x) k) f) (cAl (tb x) k f))
      rw [show max (mx (cAl (tb x) k) f) (cAl (tb x) k f) = cAl (tb x) k f by omega]
  rw [if_neg (show ¬ (15 : Int32) ≤ Int32.ofNat g from nle (n := 15) (by omega) (by decide)), nn_ix (by omega), nn_ix (by omega), n2 f (by omega), n2 g (by omega)]
  refine So_gd (inb_nn (by omega) (by decide)) (So_jn1R (fun v => v = Int32.ofNat (if tb x f = true then (if tb x g = true ∧ k g = k f then 1 else 0) else 0)) (fun v hv => So_nm (So_nm ?_)) (fun j hj => So_jn0C (¬ (tb x f = true ∧ tb x g = true ∧ k g = k f)) (fun q => hj _ ?_) (fun j2 hj2 => ?_)))
  · rw [hv, nn_add, s1]
    refine hr2 _ _ ⟨g + 1, by omega, rfl, ?_⟩ (by rw [nn_ix (by omega), nn_ix (by omega)]; omega)
    by_cases y : tb x f = true
    · rw [if_pos y, if_pos y, if_pos y, sm_s]
    · rw [if_neg y, if_neg y, if_neg y]
  · by_cases y : tb x f = true
    · rw [if_pos y, if_neg (fun w => q ⟨y, w⟩)]; rfl
    · rw [if_neg y]; rfl
  · by_cases y : tb x f = true
    rotate_left
    · rw [if_neg y, if_pos rfl]; exact hj2 (fun w => y w.1)
    rw [if_pos y, if_neg (neg1 _ (hcl f))]
    refine So_gd (inb_nn (by omega) (by decide)) (So_gd (inb_nn (by omega) (by decide)) ?_)
    by_cases w : tb x g = true
    · rw [if_pos w]
      have e : (Int32.ofNat (k g) = Int32.ofNat (k f)) ↔ k g = k f := nn_eq (by have := hcl g; omega) (by have := hcl f; omega)
      refine So.ite (fun q => hj2 (fun a => q (e.mpr a.2.2))) (fun q => hj _ ?_)
      rw [if_pos y, if_pos ⟨w, e.mp (Classical.not_not.mp q)⟩]; rfl
    · rw [if_neg w, if_pos (fun q => neg1 _ (hcl f) q.symm)]
      exact hj2 (fun a => w a.2.1)
