/-! ===== dealing: a card is taken ===== -/
theorem jn_div {a b : Nat} (ha : a < 9223372036854775808) (hb : 0 < b ∧ b < 9223372036854775808) : Int64.ofNat a / Int64.ofNat b = Int64.ofNat (a / b) := by
  have hq : a / b < 9223372036854775808 := Nat.lt_of_le_of_lt (Nat.div_le_self _ _) ha
  apply Int64.toInt_inj.mp
  rw [Int64.toInt_div_of_ne_right, jn_int ha, jn_int hb.2, jn_int hq]
  · rfl
  · intro h
    have := congrArg Int64.toInt h
    rw [jn_int hb.2, show (-1 : Int64).toInt = -1 from rfl] at this
    omega
theorem jn_rem {a b : Nat} (ha : a < 9223372036854775808) (hb : 0 < b ∧ b < 9223372036854775808) : lrm (Int64.ofNat a) (Int64.ofNat b) = Int64.ofNat (a % b) := by
  unfold lrm
  have h1 : a / b * b ≤ a := Nat.div_mul_le_self a b
  rw [jn_div ha hb, jn_mul, jn_sub h1 ha]
  congr 1
  rw [Nat.mod_eq_sub_div_mul]
def sdN (s : Nat) : Nat := (s * 1103 + 12345) % 1000003
theorem j2i_nn {n : Nat} (h : n < 2147483648) : (Int64.ofNat n).toInt32 = Int32.ofNat n := by
  apply Int32.toInt_inj.mp
  rw [Int64.toInt_toInt32, jn_int (by omega), nn_int (by omega), i_bm (by omega) (by omega)]
theorem draw_r {u s m : Nat} {M : Mem} (hs : s ≤ 1000003) (hm : 0 < m ∧ m ≤ 52) (h : mJ M u 50 = Int64.ofNat s) : FX12_draw u (Int32.ofNat m) M = some (Int32.ofNat (sdN s % m), sJ M u 50 (Int64.ofNat (sdN s))) := by
  have hq : sdN s < 1000003 := Nat.mod_lt _ (by decide)
  have hr : sdN s % m < m := Nat.mod_lt _ hm.1
  have e1 : lrm (mJ M u 50 * 1103 + 12345) 1000003 = Int64.ofNat (sdN s) := by
    rw [h, show Int64.ofNat s * 1103 = Int64.ofNat (s * 1103) from jn_mul s 1103, show Int64.ofNat (s * 1103) + 12345 = Int64.ofNat (s * 1103 + 12345) from jn_add (s * 1103) 12345]
    exact jn_rem (b := 1000003) (by omega) (by decide)
  unfold FX12_draw
  rw [nmb, e1, mJ_e, i2j_nn (by omega), jn_rem (by omega) (by omega), j2i_nn (by omega), gp]
  simp only [bne_iff_ne, ne_eq]
  intro z
  have := congrArg Int64.toInt z
  rw [jn_int (by omega), show (0 : Int64).toInt = 0 from rfl] at this
  omega
theorem er_lt {P : List Nat} {k j : Nat} (h : j < k) : (P.eraseIdx k).getD j 0 = P.getD j 0 := by
  rw [List.getD_eq_getElem?_getD, List.getD_eq_getElem?_getD, List.getElem?_eraseIdx, if_pos h]
theorem er_ge {P : List Nat} {k j : Nat} (h : k ≤ j) : (P.eraseIdx k).getD j 0 = P.getD (j + 1) 0 := by
  rw [List.getD_eq_getElem?_getD, List.getD_eq_getElem?_getD, List.getElem?_eraseIdx, if_neg (by omega)]
theorem takeCard_r {u s m : Nat} {P : List Nat} {M : Mem} (hs : s ≤ 1000003) (hm : 0 < m ∧ m ≤ 52) (hl : P.length = m) (h : mJ M u 50 = Int64.ofNat s) (hP : ∀ i, i < m → mI M (u + 30) i = Int32.ofNat (P.getD i 0)) : So (FX12_takeCard u (Int32.ofNat m) M) (fun r => r.1 = Int32.ofNat (P.getD (sdN s % m) 0) ∧ Eo (fun q => q = u ∨ q = u + 30) M r.2 ∧ mI r.2 u = mI M u ∧ mJ r.2 u 50 = Int64.ofNat (sdN s) ∧ ∀ i, i < m - 1 → mI r.2 (u + 30) i = Int32.ofNat ((P.eraseIdx (sdN s % m)).getD i 0)) := by
  have hr : sdN s % m < m := Nat.mod_lt _ hm.1
  unfold FX12_takeCard
  rw [bo (draw_r hs hm h)]
  generalize hk : sdN s % m = k at hr
  generalize hM1 : sJ M u 50 (Int64.ofNat (sdN s)) = M1
  have p1 : ∀ i, mI M1 (u + 30) i = mI M (u + 30) i := fun i => by rw [← hM1]; rfl
  rw [nn_ix (by omega), p1, hP k hr]
  refine So_gd (inb_nn (by omega) (by decide)) (So_nm ?_)
  rw [show Int32.ofNat m - 1 = Int32.ofNat (m - 1) from nn_sub (b := 1) (by omega) (by omega)]
  refine So_wl2 (fun v N => ∃ i, k ≤ i ∧ i ≤ m - 1 ∧ v = Int32.ofNat i ∧ Eo (fun q => q = u + 30) M1 N ∧ (∀ j, j < i → mI N (u + 30) j = Int32.ofNat ((P.eraseIdx k).getD j 0)) ∧ ∀ j, i ≤ j → j < m → mI N (u + 30) j = Int32.ofNat (P.getD j 0)) (fun v _ => 60 - ix v) ?_ fuel _ M1 ⟨k, Nat.le_refl _, by omega, rfl, Eo.rf, fun j hj => ?_, fun j _ hj => by rw [p1]; exact hP j hj⟩ (by unfold fuel; omega)
  · rintro v N rec ⟨i, i1, i2, rfl, e1, e2, e3⟩ hrec
    by_cases z : i = m - 1
    · rw [if_pos (by rw [z]; exact (nn_le (by omega) (by omega)).mpr (Nat.le_refl _))]
      refine So.ok ⟨rfl, ?_, ?_, ?_, fun j hj => e2 j (by omega)⟩
      · intro q hq
        refine Ea.tr ?_ (e1 q (by omega))
        rw [← hM1]; exact Ea_sJ (by omega)
      · show mI N u = mI M u
        rw [(e1 u (by omega)).1, ← hM1]; rfl
      · show mJ N u 50 = _
        rw [(e1 u (by omega)).2.1, ← hM1, mJ_e]
    · rw [if_neg (nle (by omega) (by omega)), show Int32.ofNat i + 1 = Int32.ofNat (i + 1) from nn_add i 1, nn_ix (by omega), nn_ix (by omega)]
      refine So_gd (inb_nn (by omega) (by decide)) (So_gd (inb_nn (by omega) (by decide)) (So_nm (So_nm (hrec _ _ ⟨i + 1, by omega, by omega, rfl, e1.tr (Eo_sI rfl), fun j hj => ?_, fun j j1 j2 => ?_⟩ (by rw [nn_ix (by omega), nn_ix (by omega)]; omega)))))
      · by_cases y : j = i
        · subst y
          rw [mI_e, e3 (j + 1) (by omega) (by omega), er_ge i1]
        · rw [mI_n2 y]; exact e2 j (by omega)
      · rw [mI_n2 (by omega)]; exact e3 j (by omega) j2
  · rw [p1, hP j (by omega), er_lt hj]
