/-! ===== cribOf ===== -/
def qF (r : Nat → Int32) (x y : Nat) : Nat → Bool := fun c => (!hP r c && !decide (c = x)) && !decide (c = y)
theorem isFree_r {u c x y : Nat} {K : Mem} {r : Nat → Int32} (hK : mI K (u + 2) = r) (hc : c < 52) (hx : x < 52) (hy : y < 52) : FX12_isFree u (Int32.ofNat c) (Int32.ofNat x) (Int32.ofNat y) K = some (if qF r x y c = true then 1 else 0) := by
  have ih := isHeld_nn u K hc
  rw [hK] at ih
  have ex : (Int32.ofNat c = Int32.ofNat x) ↔ c = x := nn_eq (by omega) (by omega)
  have ey : (Int32.ofNat c = Int32.ofNat y) ↔ c = y := nn_eq (by omega) (by omega)
  unfold FX12_isFree qF hP
  rw [ob ih, jb1, jb]
  by_cases z : r (130 + c) = 1
  · rw [if_pos z, if_pos (by decide), decide_eq_true z]; rfl
  · rw [if_neg z, if_neg (by decide), decide_eq_false z]
    by_cases z2 : c = x
    · rw [if_pos (ex.mpr z2), decide_eq_true z2]; rfl
    · rw [if_neg (fun q => z2 (ex.mp q)), decide_eq_false z2]
      by_cases z3 : c = y
      · rw [if_pos (ey.mpr z3), decide_eq_true z3]; rfl
      · rw [if_neg (fun q => z3 (ey.mp q)), decide_eq_false z3]; rfl
theorem Bs.full : Bs 4503599627370495 (fun _ => true) := fun c => by
  show (tn 4503599627370495).testBit c = (decide (c < 52) && true)
  rw [show tn 4503599627370495 = 2 ^ 52 - 1 from by decide, Nat.testBit_two_pow_sub_one, Bool.and_true]
def SC3 (u x y : Nat) (V : Nat → Nat) (C : Nat → Nat → Nat) (M0 K : Mem) : Prop := CnE u M0 K ∧ LC u V C K ∧ mI K (u + 27) 0 = Int32.ofNat x ∧ mI K (u + 27) 1 = Int32.ofNat y
theorem SC3.five {u Y x y a b s : Nat} {V : Nat → Nat} {C : Nat → Nat → Nat} {M0 K : Mem} (h : SC3 u x y V C M0 K) (hV : ∀ c, V c ≤ 31) (hY : mI M0 (u + 2) 7 = Int32.ofNat Y) (hY2 : Y ≤ 31) (hx : x < 52) (hy : y < 52) (ha : a < 52) (hb : b < 52) (hs : s < 52) : So (FX12_countFive u 1 (sI (sI (sI K (u + 27) 2 (Int32.ofNat a)) (u + 27) 3 (Int32.ofNat b)) (u + 27) 4 (Int32.ofNat s))) (fun r => SC3 u x y V C M0 r.2 ∧ r.1 = Int32.ofNat (amt V Y C 1 (f5 x y a b s) 0)) := by
  obtain ⟨h1, h2, h3, h4⟩ := h
  generalize hL : sI (sI (sI K (u + 27) 2 (Int32.ofNat a)) (u + 27) 3 (Int32.ofNat b)) (u + 27) 4 (Int32.ofNat s) = L
  have eL : Eo (fun q => q = u + 27) K L := by rw [← hL]; exact ((Eo_sI (P := fun q => q = u + 27) rfl).tr (Eo_sI rfl)).tr (Eo_sI rfl)
  have hf : F5 u (f5 x y a b s) L := fun k hk => by
    obtain rfl | rfl | rfl | rfl | rfl : k = 0 ∨ k = 1 ∨ k = 2 ∨ k = 3 ∨ k = 4 := by omega
    · exact ⟨hx, by rw [← hL, mI_n2 (by decide), mI_n2 (by decide), mI_n2 (by decide)]; exact h3⟩
    · exact ⟨hy, by rw [← hL, mI_n2 (by decide), mI_n2 (by decide), mI_n2 (by decide)]; exact h4⟩
    · exact ⟨ha, by rw [← hL, mI_n2 (by decide), mI_n2 (by decide), mI_e]; rfl⟩
    · exact ⟨hb, by rw [← hL, mI_n2 (by decide), mI_e]; rfl⟩
    · exact ⟨hs, by rw [← hL, mI_e]; rfl⟩
  have cL : CnE u M0 L := h1.tr (CnE.of eL (fun q hq => by omega))
  have lL : LC u V C L := h2.keep (fun j a b => by rw [(eL (u + j) (by omega)).1])
  refine (show So (FX12_countFive u 1 L) _ from countFive_r (crib := 1) lL hf hV (by rw [cL.row]; exact hY) hY2 (by decide)).mono (fun r hr => ⟨⟨cL.tr (CnE.of hr.1 (fun q hq => by omega)), lL.keep (fun j a b => by rw [(hr.1 (u + j) (by omega)).1]), ?_, ?_⟩, hr.2.1⟩)
  · rw [(hr.1 (u + 27) (by omega)).1]; exact (hf 0 (by decide)).2
  · rw [(hr.1 (u + 27) (by omega)).1]; exact (hf 1 (by decide)).2
theorem threes_r {u Y x y : Nat} {V : Nat → Nat} {C : Nat → Nat → Nat} {M0 M : Mem} {r : Nat → Int32} (h : SC3 u x y V C M0 M) (hr0 : mI M0 (u + 2) = r) (hV : ∀ c, V c ≤ 31) (hC : ∀ k i, C k i ≤ 99) (hY : mI M0 (u + 2) 7 = Int32.ofNat Y) (hY2 : Y ≤ 31) (hx : x < 52) (hy : y < 52) : So (wl3 (fun (v11 : Int64) (v12 : Int32) (M13 : Mem) rec14 => if 52 ≤ v12 then some (v11, M13) else wl3 (fun (v16 : Int64) (v17 : Int32) (M18 : Mem) rec19 => jn0 (nm (v12 + 1) fun v23 => rec14 v16 v23 M18) fun j21 => if v12 ≤ v17 then j21 else (FX12_isFree u v12 (Int32.ofNat x) (Int32.ofNat y) M18).bind fun r24 => if r24 = 0 then j21 else wl3 (fun (v25 : Int64) (v26 : Int32) (M27 : Mem) rec28 => jn0 (nm (v17 + 1) fun v32 => rec19 v25 v32 M27) fun j30 => if 52 ≤ v26 then j30 else (FX12_isFree u v17 (Int32.ofNat x) (Int32.ofNat y) M27).bind fun r33 => if r33 = 0 then j30 else jn2 (fun (v34 : Int64) (M35 : Mem) => nm (v26 + 1) fun v38 => rec28 v34 v38 M35) fun j36 => if v26 = v12 then j36 v25 M27 else if v26 = v17 then j36 v25 M27 else (FX12_isFree u v26 (Int32.ofNat x) (Int32.ofNat y) M27).bind fun r39 => if r39 = 0 then j36 v25 M27 else nm (sI M27 (u + 27) 2 v12) fun M41 => nm (sI M41 (u + 27) 3 v17) fun M43 => nm (sI M43 (u + 27) 4 v26) fun M45 => bdM (FX12_countFive u 1 M45) fun r47 M46 => nm (v25 + (r47.toInt64)) fun v48 => j36 v48 M46) fuel v16 0 M18) fuel v11 0 M13) fuel 0 0 M) (fun q => SC3 u x y V C M0 q.2 ∧ q.1 = Int64.ofNat (rfs (wq (qF r x y)) (fun a b s => amt V Y C 1 (f5 x y a b s) 0) 52)) := by
  have row : ∀ K, SC3 u x y V C M0 K → mI K (u + 2) = r := fun K hK => by rw [hK.1.row]; exact hr0
  have fr : ∀ K, SC3 u x y V C M0 K → ∀ c, c < 52 → FX12_isFree u (Int32.ofNat c) (Int32.ofNat x) (Int32.ofNat y) K = some (if qF r x y c = true then 1 else 0) := fun K hK c hc => isFree_r (row K hK) hc hx hy
  generalize hw : wq (qF r x y) = w
  have w1 : ∀ c, qF r x y c = true → w c = 1 := fun c hc => by rw [← hw]; exact if_pos hc
  have w0 : ∀ c, ¬ qF r x y c = true → w c = 0 := fun c hc => by rw [← hw]; exact if_neg hc
  generalize hG : (fun a b s => amt V Y C 1 (f5 x y a b s) 0) = G
  have hGa : ∀ a b s, amt V Y C 1 (f5 x y a b s) 0 = G a b s := fun a b s => by rw [← hG]
  have hGl : ∀ a b s, G a b s ≤ 400000 := fun a b s => by rw [← hGa]; exact amt_le hC 0
  unfold rfs
  generalize hT3 : (fun a b => sm (fun s => if s = a ∨ s = b then 0 else w s * G a b s) 52) = T3
  have eT3 : ∀ a b, sm (fun s => if s = a ∨ s = b then 0 else w s * G a b s) 52 = T3 a b := fun a b => by rw [← hT3]
  have eS : sm (fun a => w a * sm (fun b => w b * sm (fun s => if s = a ∨ s = b then 0 else w s * G a b s) 52) a) 52 = sm (fun a => w a * sm (fun b => w b * T3 a b) a) 52 := sm_cg (fun a _ => by rw [sm_cg (fun b _ => by rw [eT3])])
  rw [eS]
  refine loop_accM 0 52 (by decide) (by omega) (fun a v K => SC3 u x y V C M0 K ∧ v = Int64.ofNat (sm (fun a => w a * sm (fun b => w b * T3 a b) a) a)) 0 M ⟨h, rfl⟩ (fun v K rec hI => ?_) (fun a v K rec _ ha hI hr => ?_)
  · rw [if_pos (by decide)]
    exact So.ok ⟨hI.1, hI.2⟩
  · obtain ⟨i1, rfl⟩ := hI
    rw [if_neg (show ¬ (52 : Int32) ≤ Int32.ofNat a from nle (n := 52) ha (by decide))]
    by_cases za : qF r x y a = true
    rotate_left
    · -- not free
      refine loop_accM 0 a (by omega) (by omega) (fun b v K => SC3 u x y V C M0 K ∧ v = Int64.ofNat (sm (fun a => w a * sm (fun b => w b * T3 a b) a) a)) _ K ⟨i1, rfl⟩ (fun v K rec2 hI2 => So_jn0 ?_) (fun b v K rec2 _ hb hI2 hr2 => So_jn0 ?_)
      · rw [if_pos (Int32.le_refl _)]
        refine So_nm (hr _ _ ⟨hI2.1, ?_⟩)
        rw [hI2.2, sm_s, w0 a za, Nat.zero_mul, Nat.add_zero]
      · rw [if_neg (nle hb (by omega)), ob (fr K hI2.1 a ha), if_neg za, if_pos rfl]
        refine So_nm (hr _ _ ⟨hI2.1, ?_⟩)
        rw [hI2.2, sm_s, w0 a za, Nat.zero_mul, Nat.add_zero]
    · refine loop_accM 0 a (by omega) (by omega) (fun b v K => SC3 u x y V C M0 K ∧ v = Int64.ofNat (sm (fun a => w a * sm (fun b => w b * T3 a b) a) a + sm (fun b => w b * T3 a b) b)) _ K ⟨i1, rfl⟩ (fun v K rec2 hI2 => So_jn0 ?_) (fun b v K rec2 _ hb hI2 hr2 => So_jn0 ?_)
      · rw [if_pos (Int32.le_refl _)]
        refine So_nm (hr _ _ ⟨hI2.1, ?_⟩)
        rw [hI2.2, sm_s, w1 a za, Nat.one_mul]
      · obtain ⟨j1, rfl⟩ := hI2
        rw [if_neg (nle hb (by omega)), ob (fr K j1 a ha), if_pos za, if_neg (by decide)]
        have hb52 : b < 52 := by omega
        by_cases zb : qF r x y b = true
        rotate_left
        · refine loop_accM 0 52 (by decide) (by omega) (fun s v K => SC3 u x y V C M0 K ∧ v = Int64.ofNat (sm (fun a => w a * sm (fun b => w b * T3 a b) a) a + sm (fun b => w b * T3 a b) b)) _ K ⟨j1, rfl⟩ (fun v K rec3 hI3 => So_jn0 ?_) (fun s v K rec3 _ hs hI3 hr3 => So_jn0 ?_)
          · rw [if_pos (by decide)]
            refine So_nm (hr2 _ _ ⟨hI3.1, ?_⟩)
            rw [hI3.2, sm_s (n := b), w0 b zb, Nat.zero_mul, Nat.add_zero]
          · rw [if_neg (show ¬ (52 : Int32) ≤ Int32.ofNat s from nle (n := 52) hs (by decide)), ob (fr K hI3.1 b hb52), if_neg zb, if_pos rfl]
            refine So_nm (hr2 _ _ ⟨hI3.1, ?_⟩)
            rw [hI3.2, sm_s (n := b), w0 b zb, Nat.zero_mul, Nat.add_zero]
        · refine loop_accM 0 52 (by decide) (by omega) (fun s v K => SC3 u x y V C M0 K ∧ v = Int64.ofNat (sm (fun a => w a * sm (fun b => w b * T3 a b) a) a + sm (fun b => w b * T3 a b) b + sm (fun s => if s = a ∨ s = b then 0 else w s * G a b s) s)) _ K ⟨j1, rfl⟩ (fun v K rec3 hI3 => So_jn0 ?_) (fun s v K rec3 _ hs hI3 hr3 => So_jn0 ?_)
          · rw [if_pos (by decide)]
            refine So_nm (hr2 _ _ ⟨hI3.1, ?_⟩)
            rw [hI3.2, eT3, sm_s (n := b), w1 b zb, Nat.one_mul, Nat.add_assoc]
          · obtain ⟨k1, rfl⟩ := hI3
            rw [if_neg (show ¬ (52 : Int32) ≤ Int32.ofNat s from nle (n := 52) hs (by decide)), ob (fr K k1 b hb52), if_pos zb, if_neg (by decide), jb2]
            have same : (s = a ∨ s = b ∨ ¬ qF r x y s = true) → Int64.ofNat (sm (fun a => w a * sm (fun b => w b * T3 a b) a) a + sm (fun b => w b * T3 a b) b + sm (fun s => if s = a ∨ s = b then 0 else w s * G a b s) s) = Int64.ofNat (sm (fun a => w a * sm (fun b => w b * T3 a b) a) a + sm (fun b => w b * T3 a b) b + sm (fun s => if s = a ∨ s = b then 0 else w s * G a b s) (s + 1)) := fun hs' => by
              rw [sm_s (n := s)]
              rcases hs' with q | q | q
              · rw [if_pos (Or.inl q), Nat.add_zero]
              · rw [if_pos (Or.inr q), Nat.add_zero]
              · by_cases q2 : s = a ∨ s = b
                · rw [if_pos q2, Nat.add_zero]
                · rw [if_neg q2, w0 s q, Nat.zero_mul, Nat.add_zero]
            have ea : (Int32.ofNat s = Int32.ofNat a) ↔ s = a := nn_eq (by omega) (by omega)
            have eb : (Int32.ofNat s = Int32.ofNat b) ↔ s = b := nn_eq (by omega) (by omega)
            by_cases y1 : s = a
            · rw [if_pos (ea.mpr y1)]; exact So_nm (hr3 _ _ ⟨k1, same (Or.inl y1)⟩)
            rw [if_neg (fun q => y1 (ea.mp q))]
            by_cases y2 : s = b
            · rw [if_pos (eb.mpr y2)]; exact So_nm (hr3 _ _ ⟨k1, same (Or.inr (Or.inl y2))⟩)
            rw [if_neg (fun q => y2 (eb.mp q)), ob (fr K k1 s hs)]
            by_cases y3 : qF r x y s = true
            rotate_left
            · rw [if_neg y3, if_pos rfl]; exact So_nm (hr3 _ _ ⟨k1, same (Or.inr (Or.inr y3))⟩)
            rw [if_pos y3, if_neg (by decide)]
            refine So_nm (So_nm (So_nm (So_bdM (SC3.five k1 hV hY hY2 hx hy ha hb52 hs) (fun r47 M46 h46 => So_nm (So_nm (hr3 _ _ ⟨h46.1, ?_⟩))))))
            have e47 : r47 = Int32.ofNat (G a b s) := by rw [← hGa]; exact h46.2
            rw [e47, i64_nn (by have := hGl a b s; omega), jn_add, sm_s (n := s), if_neg (by omega), w1 s y3, Nat.one_mul, ← Nat.add_assoc]
theorem qF_N {r : Nat → Int32} {x y : Nat} (h6 : (cs (hP r)).length ≤ 6) (hx : x < 52) (hy : y < 52) : 44 ≤ (cs (qF r x y)).length := by
  rw [← cs_sm]
  rw [← cs_sm] at h6
  have a : sm (fun _ => 1) 52 ≤ sm (fun c => wq (qF r x y) c + wq (hP r) c + (if c = x then 1 else 0) + (if c = y then 1 else 0)) 52 := sm_lt (fun c _ => by
    show 1 ≤ wq (qF r x y) c + wq (hP r) c + (if c = x then 1 else 0) + (if c = y then 1 else 0)
    unfold wq
    by_cases z1 : hP r c = true
    · rw [if_pos z1]; omega
    by_cases z2 : c = x
    · rw [if_pos z2]; omega
    by_cases z3 : c = y
    · rw [if_pos z3]; omega
    have : qF r x y c = true := by
      unfold qF
      rw [decide_eq_false z2, decide_eq_false z3]
      cases q : hP r c with
      | true => exact absurd q z1
      | false => rfl
    rw [if_pos this]; omega)
  have e1 : sm (fun _ => 1) 52 = 52 := by decide
  have e2 : sm (fun c => wq (qF r x y) c + wq (hP r) c + (if c = x then 1 else 0) + (if c = y then 1 else 0)) 52 = sm (wq (qF r x y)) 52 + sm (wq (hP r)) 52 + 1 + 1 := by
    rw [sm_plus, sm_plus, sm_plus, sm_pt hx, sm_pt hy]
  omega
theorem st_cribOf : St_cribOf Inv := by
  rintro t u T M p1 p2 ⟨Λ, h⟩
  have hu := h.1
  obtain ⟨a1, a2, a3⟩ := h.held
  have no : FX11_cribOf t p1 p2 M = some (-1, M) → FX12_cribOf u p1 p2 M = some (-1, sI M u 0 0) → ∃ v M1 M2, FX11_cribOf t p1 p2 M = some (v, M1) ∧ FX12_cribOf u p1 p2 M1 = some (v, M2) ∧ Inv t u T M2 := fun x y => ⟨-1, M, sI M u 0 0, x, y, Λ, h.u0 0⟩
  rcases card_cases p1 with ⟨x, hx, rfl⟩ | hno
  rotate_left
  · refine no ?_ ?_
    · unfold FX11_cribOf; rw [isCard_eq, if_neg hno, ob rfl, jb, if_pos rfl]
    · unfold FX12_cribOf; rw [nmb, isCardM, if_neg hno, ob rfl, jb, if_pos rfl]
  have cM : ∀ z, z < 52 → FX12_isCard (Int32.ofNat z) = some 1 := fun z hz => by rw [isCardM, nn_int (by omega), if_pos (by omega)]
  rcases card_cases p2 with ⟨y, hy, rfl⟩ | hno
  rotate_left
  · refine no ?_ ?_
    · unfold FX11_cribOf; rw [isCard_nn hx, ob rfl, jb, if_neg (by decide), isCard_eq, if_neg hno, ob rfl, if_pos rfl]
    · unfold FX12_cribOf; rw [nmb, cM x hx, ob rfl, jb, if_neg (by decide), isCardM, if_neg hno, ob rfl, if_pos rfl]
  have exy : (Int32.ofNat x = Int32.ofNat y) ↔ x = y := nn_eq (by omega) (by omega)
  by_cases hxy : x = y
  · refine no ?_ ?_
    · unfold FX11_cribOf; rw [isCard_nn hx, ob rfl, jb, if_neg (by decide), isCard_nn hy, ob rfl, if_neg (by decide), if_neg (fun q => q (exy.mpr hxy))]
    · unfold FX12_cribOf; rw [nmb, cM x hx, ob rfl, jb, if_neg (by decide), cM y hy, ob rfl, if_neg (by decide), if_neg (fun q => q (exy.mpr hxy))]
  obtain ⟨n, I, N, Y, n1, n2, n3, y1, y2, y3, y4⟩ := h.fitV
  generalize hV : vN I n (mI M (u + 2) 8) (mI M (u + 2) 6) = V at y3
  generalize hC : cN I n (mI M (u + 2) 8) (mI M (u + 2) 6) = C at y3
  have hB : Bs (mJ N (t + 1) 5) (hP (mI M (u + 2))) := by have := n2.held.1; rw [n3] at this; exact this
  have hBq : Bs (((4503599627370495 &&& ((mJ N (t + 1) 5) ^^^ (-1))) &&& (((1 : Int64) <<< ((Int32.ofNat x).toInt64 &&& 63)) ^^^ (-1))) &&& (((1 : Int64) <<< ((Int32.ofNat y).toInt64 &&& 63)) ^^^ (-1))) (qF (mI M (u + 2)) x y) :=
    (((Bs.full.andnot hB).andnot (Bs.one hx)).andnot (Bs.one hy)).congr (fun c hc => by unfold qF; rw [Bool.true_and])
  have hN := qF_N (r := mI M (u + 2)) (x := x) (y := y) a3 hx hy
  obtain ⟨⟨v, M16⟩, c1, c2, c3⟩ := of_c (b := t + 228) (by omega) y3 hBq hx hy (by omega)
  have c2 : v = Int64.ofNat (cribV V Y (C 1) (wq (qF (mI M (u + 2)) x y)) x y) := c2
  have c3 : Eo (fun q => t + 228 ≤ q ∧ q < t + 228 + 9) N M16 := c3
  have i16 : InvL Λ t u T M16 := n2.scr (c3.up (fun q hq => by omega))
  have e16 : mI M16 (u + 2) = mI M (u + 2) := by rw [(c3 (u + 2) (by omega)).1]; exact n3
  have i0 := i16.u0 0
  have e0 : mI (sI M16 u 0 0) (u + 2) = mI M (u + 2) := by rw [u0_row]; exact e16
  obtain ⟨M6, l1, l2, l3, l4, l5⟩ := layCounts_r (pl := 1) (y4 (sI M16 u 0 0) e0 i0.2.2.2.2.2.2.2.2.2.2.2.2) (by decide)
  rw [hV, hC] at l3
  have l1 : FX12_layCounts u 1 (sI M16 u 0 0) = some M6 := l1
  generalize hM10 : sI (sI M6 (u + 27) 0 (Int32.ofNat x)) (u + 27) 1 (Int32.ofNat y) = M10
  have e10 : Eo (fun q => q = u + 27) M6 M10 := by rw [← hM10]; exact (Eo_sI (P := fun q => q = u + 27) rfl).tr (Eo_sI rfl)
  have s10 : SC3 u x y V (C 1) (sI M16 u 0 0) M10 := ⟨l2.tr (CnE.of e10 (fun q hq => by omega)), l3.keep (fun j a b => by rw [(e10 (u + j) (by omega)).1]), by rw [← hM10, mI_n2 (by decide), mI_e], by rw [← hM10, mI_e]⟩
  obtain ⟨⟨v2, W⟩, w1, w2, w3⟩ := threes_r s10 e0 (fun c => (y3.vle c).2) (fun k i => y3.cle 1 k i) (by rw [e0]; exact y1) y2 hx hy
  have w2 : SC3 u x y V (C 1) (sI M16 u 0 0) W := w2
  have w3 : v2 = Int64.ofNat (rfs (wq (qF (mI M (u + 2)) x y)) (fun a b s => amt V Y (C 1) 1 (f5 x y a b s) 0) 52) := w3
  have qx : wq (qF (mI M (u + 2)) x y) x = 0 := if_neg (by unfold qF; rw [decide_eq_true (show x = x from rfl)]; simp)
  have qy : wq (qF (mI M (u + 2)) x y) y = 0 := if_neg (by unfold qF; rw [decide_eq_true (show y = y from rfl)]; simp)
  have eq : v2 = v := by
    rw [w3, c2, crib_eq wq_01 (by rw [cs_sm]; omega) hx hy qx qy hxy]
  refine ⟨v, M16, W, ?_, ?_, Λ, i0.cn w2.1⟩
  · unfold FX11_cribOf
    rw [isCard_nn hx, ob rfl, jb, if_neg (by decide), isCard_nn hy, ob rfl, if_neg (by decide), if_pos (fun q => hxy (exy.mp q)), ob n1, bit_nn hx, bit_nn hy, ob rfl, ob rfl, bo c1]
  · unfold FX12_cribOf
    rw [nmb, cM x hx, ob rfl, jb, if_neg (by decide), cM y hy, ob rfl, if_neg (by decide), if_pos (fun q => hxy (exy.mp q)), ob l1, nmb, nmb, hM10, w1, eq]
