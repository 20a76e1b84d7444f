/-! ===== four and a starter ===== -/
def w5 (f : Nat → Nat) (s : Nat) : Nat → Nat := fun k => if k < 4 then f k else s
theorem w5_l {f : Nat → Nat} {s k : Nat} (h : k < 4) : w5 f s k = f k := if_pos h
theorem w5_4 {f : Nat → Nat} {s : Nat} : w5 f s 4 = s := rfl
theorem bt_lo : ∀ i, i < 16 → ∀ k, k < 4 → bt (16 + i) k = bt i k := by decide
theorem bt_hi : ∀ i, i < 16 → bt (16 + i) 4 = 1 ∧ bt i 4 = 0 := by decide
def fbv (V : Nat → Nat) (Y : Nat) (F f : Nat → Nat) (v n : Nat) : Nat := sm (fun s => if 0 < szS s 4 ∧ suS V f s 4 + v = Y then F (szS s 4 + 1) else 0) n
theorem fif_5 {V : Nat → Nat} {Y s : Nat} {F f : Nat → Nat} : fif V Y F (w5 f s) 5 32 = fif V Y F f 4 16 + fbv V Y F f (V s) 16 := by
  unfold fif fbv
  rw [show 32 = 16 + 16 from rfl, sm_add]
  have sz : ∀ i, i < 16 → szS i 5 = szS i 4 := fun i hi => by
    show szS i 4 + bt i 4 = _
    rw [(bt_hi i hi).2]; rfl
  have sz2 : ∀ i, i < 16 → szS (16 + i) 5 = szS i 4 + 1 := fun i hi => by
    show szS (16 + i) 4 + bt (16 + i) 4 = _
    rw [(bt_hi i hi).1]
    unfold szS
    rw [sm_cg (fun k hk => bt_lo i hi k hk)]
  have su : ∀ i, i < 16 → suS V (w5 f s) i 5 = suS V f i 4 := fun i hi => by
    show suS V (w5 f s) i 4 + bt i 4 * _ = _
    rw [(bt_hi i hi).2, Nat.zero_mul]
    unfold suS
    exact sm_cg (fun k hk => by rw [w5_l hk])
  have su2 : ∀ i, i < 16 → suS V (w5 f s) (16 + i) 5 = suS V f i 4 + V s := fun i hi => by
    show suS V (w5 f s) (16 + i) 4 + bt (16 + i) 4 * V (w5 f s 4) = _
    rw [(bt_hi i hi).1, Nat.one_mul, w5_4]
    unfold suS
    rw [sm_cg (fun k hk => by rw [w5_l hk, bt_lo i hi k hk])]
  congr 1
  · exact sm_cg (fun i hi => by rw [sz i hi, su i hi])
  · refine sm_cg (fun i hi => ?_)
    rw [sz2 i hi, su2 i hi]
    by_cases z : 0 < szS i 4 ∧ suS V f i 4 + V s = Y
    · rw [if_pos z, if_pos ⟨by omega, z.2⟩]
    · rw [if_neg z, if_neg (fun q => z ⟨by omega, q.2⟩)]
theorem prs_s {P g : Nat → Nat} {m : Nat} : prs P g (m + 1) = prs P g m + cnk g m (g m) * P (g m) := by
  show prs P g m + sm (fun b => if g m = g b then P (g m) else 0) m = _
  congr 1
  unfold cnk
  rw [Nat.mul_comm, ← sm_mul]
  refine sm_cg (fun b hb => ?_)
  by_cases z : g m = g b
  · rw [if_pos z, if_pos z.symm, Nat.mul_one]
  · rw [if_neg z, if_neg (fun q => z q.symm), Nat.mul_zero]
theorem cnk_cg {g h : Nat → Nat} {m r : Nat} (e : ∀ k, k < m → g k = h k) : cnk g m r = cnk h m r := sm_cg (fun k hk => by rw [e k hk])
theorem prs_cg {P g h : Nat → Nat} : ∀ {m : Nat}, (∀ k, k < m → g k = h k) → prs P g m = prs P h m
  | 0, _ => rfl
  | m + 1, e => by rw [prs_s, prs_s, prs_cg (fun k hk => e k (by omega)), e m (by omega), cnk_cg (fun k hk => e k (by omega))]
theorem prs_5 {P f : Nat → Nat} {s : Nat} : prs P (fun k => w5 f s k / 4) 5 = prs P (fun k => f k / 4) 4 + cnk (fun k => f k / 4) 4 (s / 4) * P (s / 4) := by
  rw [prs_s, prs_cg (h := fun k => f k / 4) (fun k hk => by rw [w5_l hk]), cnk_cg (h := fun k => f k / 4) (fun k hk => by rw [w5_l hk])]; rfl
theorem ch2 (x : Nat) : (x + 1) * (x + 1 - 1) / 2 = x * (x - 1) / 2 + x := by
  cases x with
  | zero => rfl
  | succ y =>
    have : (y + 1 + 1) * (y + 1 + 1 - 1) = (y + 1) * (y + 1 - 1) + (y + 1) * 2 := by
      simp only [Nat.add_sub_cancel]
      rw [Nat.mul_comm (y + 1) y, ← Nat.mul_comm (y + 1) (y + 1 + 1)]
      rw [Nat.mul_comm y (y + 1), ← Nat.mul_add]
    rw [this, Nat.add_mul_div_right _ _ (by decide)]
theorem prs_ch {P g : Nat → Nat} : ∀ {m : Nat}, (∀ k, k < m → g k < 13) → prs P g m = sm (fun r => cnk g m r * (cnk g m r - 1) / 2 * P r) 13
  | 0, _ => (sm_0 (fun r _ => by show 0 * _ / 2 * P r = 0; rw [Nat.zero_mul]; simp)).symm
  | m + 1, e => by
    have ih := prs_ch (P := P) (g := g) (m := m) (fun k hk => e k (by omega))
    have hx := e m (by omega)
    have up := sm_up (g := fun r => cnk g m r * (cnk g m r - 1) / 2 * P r) (h := fun r => cnk g (m + 1) r * (cnk g (m + 1) r - 1) / 2 * P r) hx (fun i hi hn => by
      show cnk g (m + 1) i * _ / 2 * _ = _
      rw [cnk_s, if_neg (fun q => hn q.symm), Nat.add_zero])
    have e2 : cnk g (m + 1) (g m) * (cnk g (m + 1) (g m) - 1) / 2 * P (g m) = cnk g m (g m) * (cnk g m (g m) - 1) / 2 * P (g m) + cnk g m (g m) * P (g m) := by
      rw [cnk_s, if_pos rfl, ch2, Nat.add_mul]
    rw [prs_s, ih]
    simp only [e2] at up
    omega
theorem rns_5 {R f : Nat → Nat} {s : Nat} : rns R (w5 f s) = rsn R (fun r => cnk (fun k => f k / 4) 4 r + if r = s / 4 then 1 else 0) 14 := by
  unfold rns
  congr 1
  funext r
  rw [cnk_s, cnk_cg (h := fun k => f k / 4) (fun k hk => by rw [w5_l hk])]
  show _ + (if s / 4 = r then 1 else 0) = _
  congr 1
  by_cases z : s / 4 = r
  · rw [if_pos z, if_pos z.symm]
  · rw [if_neg z, if_neg (fun q => z q.symm)]
theorem e1_sum {f : Nat → Nat} {x : Nat} (j : Nat) : sm (fun r => cnk (fun k => f k / 4) 4 r + if r = x then 1 else 0) j ≤ 5 := by
  rw [sm_plus]
  have h := cnk_sum (g := fun k => f k / 4) 4 j
  have h2 : sm (fun r => if r = x then 1 else 0) j ≤ 1 := by
    by_cases z : x < j
    · rw [sm_pt z]; exact Nat.le_refl _
    · rw [sm_0 (fun i hi => if_neg (by omega))]; omega
  omega
/-! the cards of a set, rising -/
def fC (P : Nat → Bool) (k : Nat) : Nat := (cs P).getD k 0
theorem fC_at {P : Nat → Bool} {k : Nat} (h : k < (cs P).length) : at1 (cs P) k = Int32.ofNat (fC P k) := by
  unfold at1 fC
  rw [List.getD_eq_getElem?_getD, List.getElem?_eq_getElem h]; rfl
theorem fC_mem {P : Nat → Bool} {k : Nat} (h : k < (cs P).length) : fC P k < 52 ∧ P (fC P k) = true := cs_mem.mp (getD_mem h)
theorem fC_lt {P : Nat → Bool} {i j : Nat} (h : i < j) (hj : j < (cs P).length) : fC P i < fC P j := by
  have hp : (cs P).Pairwise (· < ·) := by
    unfold cs
    exact List.Pairwise.filter _ List.pairwise_lt_range
  have := List.pairwise_iff_getElem.mp hp i j (by omega) hj h
  unfold fC
  rw [List.getD_eq_getElem?_getD, List.getD_eq_getElem?_getD, List.getElem?_eq_getElem hj, List.getElem?_eq_getElem (show i < (cs P).length by omega)]
  exact this
theorem fC_ex {P : Nat → Bool} {c : Nat} (hc : c < 52) (h : P c = true) : ∃ k, k < (cs P).length ∧ fC P k = c := by
  obtain ⟨k, hk, e⟩ := List.getElem_of_mem (cs_mem.mpr ⟨hc, h⟩)
  refine ⟨k, hk, ?_⟩
  unfold fC
  rw [List.getD_eq_getElem?_getD, List.getElem?_eq_getElem hk]; exact e
theorem cnk_fC {P : Nat → Bool} {c : Nat} (hc : c < 52) : cnk (fC P) (cs P).length c = if P c = true then 1 else 0 := by
  by_cases h : P c = true
  · rw [if_pos h]
    obtain ⟨x, hx, e⟩ := fC_ex hc h
    unfold cnk
    rw [sm_cg (h := fun i => if i = x then 1 else 0) (fun i hi => ?_), sm_pt hx]
    by_cases z : i = x
    · rw [if_pos z, if_pos (by rw [z]; exact e)]
    · rw [if_neg z, if_neg (fun q => ?_)]
      rcases Nat.lt_or_gt_of_ne z with w | w
      · have := fC_lt (P := P) w hx; omega
      · have := fC_lt (P := P) w hi; omega
  · rw [if_neg h]
    exact sm_0 (fun i hi => if_neg (fun q => h (by rw [← q]; exact (fC_mem hi).2)))
theorem nbs_5 {N : Nat → Nat} {P : Nat → Bool} {s : Nat} (h4 : (cs P).length = 4) (hs : s < 52) : nbs N (w5 (fC P) s) = if P (40 + s % 4) = true then N (s % 4) else 0 := by
  have hc := cnk_fC (P := P) (c := 40 + s % 4) (by omega)
  rw [h4] at hc
  have e : nbs N (w5 (fC P) s) = N (s % 4) * cnk (fC P) 4 (40 + s % 4) := by
    unfold nbs cnk
    rw [← sm_mul]
    refine sm_cg (fun k hk => ?_)
    rw [w5_l hk, w5_4]
    by_cases z : fC P k = 40 + s % 4
    · rw [if_pos z, Nat.mul_one, if_pos ⟨by omega, by omega⟩, show fC P k % 4 = s % 4 by omega]
    · rw [if_neg z, Nat.mul_zero, if_neg (fun q => by omega)]
  rw [e, hc]
  split
  · rw [Nat.mul_one]
  · rw [Nat.mul_zero]
