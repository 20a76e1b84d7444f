/-! ===== a frame of the tries ===== -/
def FrD (u d : Nat) (r : Nat → Int32) (M0 X : Mem) (ca bc ba : Int32) : Prop := TdE u M0 X ∧ (∀ j, j < 122 → mI X (u + 32) (122 * d + j) = r (8 + j)) ∧ (∀ k, k < 8 ∨ 130 ≤ k → mI X (u + 2) k = r k) ∧ (mI X (u + 33) d = ca ∧ mI X (u + 36) d = bc ∧ mI X (u + 35) d = ba) ∧ (∀ q, q < 122 * d → mI X (u + 32) q = mI M0 (u + 32) q) ∧ ∀ i, i < d → mI X (u + 33) i = mI M0 (u + 33) i ∧ mI X (u + 34) i = mI M0 (u + 34) i ∧ mI X (u + 35) i = mI M0 (u + 35) i ∧ mI X (u + 36) i = mI M0 (u + 36) i
def Sm (u : Nat) (r : Nat → Int32) (X N : Mem) : Prop := TdE u X N ∧ mI N (u + 2) = r ∧ ∀ j, 32 ≤ j → j < 37 → mI N (u + j) = mI X (u + j)
def caE (L : List Nat) (i : Nat) : Int32 := if i = 0 then -1 else Int32.ofNat (L.getD (i - 1) 0)
def caN (L : List Nat) (i : Nat) : Nat := if i = 0 then 0 else L.getD (i - 1) 0 + 1
theorem caE_1 {L : List Nat} {i : Nat} : caE L i + 1 = Int32.ofNat (caN L i) := by
  unfold caE caN
  by_cases z : i = 0
  · rw [if_pos z, if_pos z]; decide
  · rw [if_neg z, if_neg z]; exact s1 _
theorem deep_row {u d : Nat} {r : Nat → Int32} {X N : Mem} (h1 : ∀ j, j < 122 → mI X (u + 32) (122 * d + j) = r (8 + j)) (h2 : ∀ k, k < 8 ∨ 130 ≤ k → mI X (u + 2) k = r k) (n1 : ∀ j, j < 122 → mI N (u + 2) (8 + j) = mI X (u + 32) (122 * d + j)) (n2 : ∀ k, (k < 8 ∨ 130 ≤ k) → mI N (u + 2) k = mI X (u + 2) k) : mI N (u + 2) = r := by
  funext k
  by_cases z : k < 8 ∨ 130 ≤ k
  · rw [n2 k z, h2 k z]
  · obtain ⟨j, rfl⟩ : ∃ j, k = 8 + j := ⟨k - 8, by omega⟩
    rw [n1 j (by omega), h1 j (by omega)]
theorem put_td {u : Nat} {M N : Mem} (h : Eo (fun q => q = u + 2) M N) (h2 : ∀ k, (k < 8 ∨ 130 ≤ k) → mI N (u + 2) k = mI M (u + 2) k) : TdE u M N := ⟨h.up (fun q hq => Or.inr (Or.inl hq)), fun k _ _ => by rw [(h u (by omega)).1], h2⟩
theorem step_r {u d n i : Nat} {I : Nat → CI} {deal mood : Int32} {r : Nat → Int32} {M0 X : Mem} {bc ba : Int32} {rec : Int32 → Mem → Option Mem} {Q : Mem → Prop} (hF : FrD u d r M0 X (caE (plL I n deal mood r) i) bc ba) (hd : d ≤ 8) (hG : GO r) (hRL : ∀ K, TdE u M0 K → mI K (u + 2) = r → RL u n I deal mood K) (hi : i ≤ (plL I n deal mood r).length)
    (hdn : r 14 ≠ -1 → i < (plL I n deal mood r).length → ∀ N, Sm u r X N → So (dnT u (Int32.ofNat d) (r 14) (Int32.ofNat ((plL I n deal mood r).getD i 0)) N rec) Q)
    (hup : (r 14 = -1 ∨ i = (plL I n deal mood r).length) → ∀ N, Sm u r X N → So (upT u (Int32.ofNat d) N rec) Q) : So (tstep u (Int32.ofNat d) X rec) Q := by
  obtain ⟨f1, f2, f3, ⟨f4, f5, f6⟩, f7, f8⟩ := hF
  unfold tstep
  rw [if_neg (show ¬ Int32.ofNat d < 0 from fun q => by have := (nn_lt (b := 0) (by omega) (by omega)).mp q; omega)]
  refine So.bind (putDeep_r (by omega)) (fun M7 h7 => ?_)
  obtain ⟨g1, g2, g3⟩ := h7
  have r7 : mI M7 (u + 2) = r := deep_row f2 f3 g2 g3
  have t7 : TdE u X M7 := put_td g1 g3
  have s7 : Sm u r X M7 := ⟨t7, r7, fun j a b => (g1 (u + j) (by omega)).1⟩
  refine So_nm (So_gd (inb_nn (by omega) (by decide)) (So_nm ?_))
  rw [r7, nn_ix (by omega), (g1 (u + 33) (by omega)).1, f4, caE_1]
  by_cases z : r 14 = -1
  · refine So_wl2 (fun v K => K = M7) (fun _ _ => 0) ?_ fuel _ M7 rfl (by unfold fuel; omega)
    rintro v K rec2 rfl _
    refine So_jn1 ?_
    rw [if_pos z]
    refine So_jn0 ?_
    rw [if_pos z]
    exact hup (Or.inl z) K s7
  have h12 : 0 ≤ (r 12).toInt ∧ (r 12).toInt ≤ 31 := hG.1.2.2.2.2.1
  have mono := fun (a b : Nat) (h : a < b) (hb : b < (plL I n deal mood r).length) => fC_lt (P := canP (vOf I n deal mood) (bOf I n deal mood) r (r 14)) h hb
  have mem := fun (k : Nat) (hk : k < (plL I n deal mood r).length) => fC_mem (P := canP (vOf I n deal mood) (bOf I n deal mood) r (r 14)) hk
  have ex := fun (c : Nat) (hc : c < 52) (h : canP (vOf I n deal mood) (bOf I n deal mood) r (r 14) c = true) => fC_ex (P := canP (vOf I n deal mood) (bOf I n deal mood) r (r 14)) hc h
  have fCe : ∀ k, fC (canP (vOf I n deal mood) (bOf I n deal mood) r (r 14)) k = (plL I n deal mood r).getD k 0 := fun k => rfl
  have hlen : (cs (canP (vOf I n deal mood) (bOf I n deal mood) r (r 14))).length = (plL I n deal mood r).length := rfl
  simp only [fCe, hlen] at mono mem ex
  generalize hP : canP (vOf I n deal mood) (bOf I n deal mood) r (r 14) = P at mem ex
  generalize hL : plL I n deal mood r = L at *
  have hs52 : caN L i ≤ 52 := by
    unfold caN
    by_cases y : i = 0
    · rw [if_pos y]; omega
    · rw [if_neg y]; have := (mem (i - 1) (by omega)).1; omega
  have nxt : ∀ x, x < 52 → caN L i ≤ x → P x = true → (∀ y, caN L i ≤ y → y < x → P y = false) → i < L.length ∧ L.getD i 0 = x := fun x hx hsx hPx hno => by
    obtain ⟨j, j1, j2⟩ := ex x hx hPx
    have hij : i ≤ j := by
      apply Classical.byContradiction
      intro q
      have hi0 : i ≠ 0 := by omega
      unfold caN at hsx
      rw [if_neg hi0] at hsx
      by_cases w : j = i - 1
      · rw [← w, j2] at hsx; omega
      · have := mono j (i - 1) (by omega) (by omega); omega
    by_cases w : j = i
    · subst w; exact ⟨j1, j2⟩
    · exfalso
      have a := mono i j (by omega) j1
      have b := (mem i (by omega)).2
      have cge : caN L i ≤ L.getD i 0 := by
        unfold caN
        by_cases y : i = 0
        · rw [if_pos y]; omega
        · rw [if_neg y]; have := mono (i - 1) i (by omega) (by omega); omega
      rw [hno _ cge (by omega)] at b
      cases b
  have fin : (∀ y, caN L i ≤ y → y < 52 → P y = false) → i = L.length := fun hno => by
    apply Classical.byContradiction
    intro q
    have b := mem i (by omega)
    have cge : caN L i ≤ L.getD i 0 := by
      unfold caN
      by_cases y : i = 0
      · rw [if_pos y]; omega
      · rw [if_neg y]; have := mono (i - 1) i (by omega) (by omega); omega
    rw [hno _ cge b.1] at b
    cases b.2
  refine So_wl2 (fun v K => ∃ x, caN L i ≤ x ∧ x ≤ 52 ∧ v = Int32.ofNat x ∧ TlE u M7 K ∧ ∀ y, caN L i ≤ y → y < x → P y = false) (fun v _ => 52 - ix v) ?_ fuel _ M7 ⟨caN L i, Nat.le_refl _, hs52, rfl, TlE.rf, fun y a b => absurd a (by omega)⟩ (by unfold fuel; omega)
  rintro v K rec2 ⟨x, x1, x2, rfl, x3, x4⟩ hr
  have smK : ∀ K', TlE u M7 K' → Sm u r X K' := fun K' hK => ⟨t7.tr hK.td, by rw [hK.row, r7], fun j a b => by rw [(hK.1 (u + j) (by omega)).1, (g1 (u + j) (by omega)).1]⟩
  refine So_jn1R (fun K' => TlE u M7 K' ∧ ((x = 52 ∧ i = L.length) ∨ (x < 52 ∧ i < L.length ∧ L.getD i 0 = x))) (fun K' hK' => So_jn0 ?_) (fun j hj => ?_)
  · obtain ⟨k1, k2⟩ := hK'
    rw [if_neg z]
    rcases k2 with ⟨rfl, q⟩ | ⟨q1, q2, q3⟩
    · rw [if_pos (show (52 : Int32) ≤ Int32.ofNat 52 by decide)]
      exact hup (Or.inr q) K' (smK K' k1)
    · rw [if_neg (show ¬ (52 : Int32) ≤ Int32.ofNat x from nle (n := 52) q1 (by decide)), ← q3]
      exact hdn z q2 K' (smK K' k1)
  · rw [if_neg z]
    by_cases y : x = 52
    · rw [y, if_pos (show (52 : Int32) ≤ Int32.ofNat 52 by decide)]
      exact hj _ ⟨x3, Or.inl ⟨y, fin (fun w a b => x4 w a (by omega))⟩⟩
    rw [if_neg (show ¬ (52 : Int32) ≤ Int32.ofNat x from nle (n := 52) (by omega) (by decide))]
    have rK : mI K (u + 2) = r := by rw [x3.row, r7]
    refine So_bdM (canPlay_r (p := r 14) (c := x) (hRL K ((f1.tr t7).tr x3.td) rK) (by rw [rK]; exact h12) (by omega)) (fun w K2 hK2 => ?_)
    have w1 : TlE u K K2 := hK2.1
    have w2 : w = _ := hK2.2
    rw [rK, hP] at w2
    by_cases c : P x = true
    · rw [w2, if_pos c, if_pos (by decide)]
      exact hj _ ⟨x3.tr w1, Or.inr ⟨by omega, nxt x (by omega) x1 c x4⟩⟩
    · rw [w2, if_neg c, if_neg (by decide)]
      refine So_nm ?_
      rw [s1]
      refine hr _ _ ⟨x + 1, by omega, by omega, rfl, x3.tr w1, fun y' a b => ?_⟩ (by rw [nn_ix (by omega), nn_ix (by omega)]; omega)
      by_cases e : y' = x
      · rw [e]; simpa using c
      · exact x4 y' a (by omega)
def bcE : Option (Int × Nat) → Int32
  | none => -1
  | some mx => Int32.ofNat mx.2
def baO (r : Nat → Int32) (ba : Int32) : Option (Int × Nat) → Prop
  | none => ba = 0
  | some mx => ba.toInt = if r 14 = 0 then mx.1 else - mx.1
def cst : Nat → Nat
  | 0 => 0
  | k + 1 => 4 * (2 + cst k)
/-- all plays of a frame are tried -/
def Exh (I : Nat → CI) (n : Nat) (deal mood : Int32) (u d k : Nat) (r : Nat → Int32) (M0 X : Mem) : Prop := ∃ i bc ba, i ≤ (plL I n deal mood r).length ∧ (r 14 = -1 ∨ i = (plL I n deal mood r).length) ∧ FrD u d r M0 X (caE (plL I n deal mood r) i) bc ba ∧ ba.toInt = (if r 14 = 0 then bv I n deal mood k r else - bv I n deal mood k r) ∧ ((r 14 ≠ -1 → plL I n deal mood r = [] → bc = -1) ∧ ∀ mx, r 14 ≠ -1 → bst (ah I n deal mood (k - 1) r) (plL I n deal mood r) = some mx → bc = Int32.ofNat mx.2)
