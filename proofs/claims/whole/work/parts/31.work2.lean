/-! ===== the whole of work ===== -/
def wk1 (op a : Int32) (tl : Int32 → Int32) (p : Int32) (s : List Int64) : Option (Int32 × List Int64) :=
  if op = 0 then some (p + 2, psh a.toInt64 s)
  else if op = 1 then some (p + 2, psh (tl a).toInt64 s)
  else if op = 10 then some (p + 2, psh (1 - top s) s.tail)
  else if op = 11 ∨ op = 12 then (if (decide (top s = 0)) = (decide (op = 12)) then some (p + 2, s.tail) else some (a, psh (top s) s.tail))
  else (jnP op s).map (fun s' => (p + 2, s'))
def wkP (sz : Nat) (cd : Nat → Int32) (tl : Int32 → Int32) (hi : Int32) : Nat → Int32 → List Int64 → Option Int64
  | 0, _, s => some (top s)
  | n + 1, p, s => if p < 0 ∨ hi ≤ p ∨ Int32.ofNat sz ≤ p + 1 then some (top s) else match wk1 (cd (ix p)) (cd (ix (p + 1))) tl p s with
    | none => none
    | some q => wkP sz cd tl hi n q.1 q.2
def tlD (g : Nat → Int32) (w : Int32) : Int32 := if 0 ≤ w.toInt ∧ w.toInt < 19 then g (ix w) else -1
theorem told7 (t : Nat) (w : Int32) (M : Mem) : FX7_told t w M = some (tlD (mI M (t + 1)) w) := by
  unfold FX7_told tlD jn1 jn0; simp only []
  by_cases h0 : w < 0
  · rw [if_pos h0, if_neg (by rw [Int32.lt_iff_toInt_lt, show (0 : Int32).toInt = 0 from rfl] at h0; omega)]
  · rw [if_neg h0]
    rw [Int32.lt_iff_toInt_lt, show (0 : Int32).toInt = 0 from rfl] at h0
    by_cases h1 : (19 : Int32) ≤ w
    · rw [if_pos h1]; rw [Int32.le_iff_toInt_le, show (19 : Int32).toInt = 19 from rfl] at h1; rw [if_neg (by omega)]
    · rw [if_neg h1]; rw [Int32.le_iff_toInt_le, show (19 : Int32).toInt = 19 from rfl] at h1; rw [if_pos (by omega)]
      unfold gd; rw [if_pos (inb_iff.mpr (by omega))]
theorem WkE5 {t : Nat} {M K : Mem} {v : Int32} (h : WkE t M K) : WkE t (sI M t 5 v) (sI K t 5 v) := by
  obtain ⟨w1, w2, w3, w4, w5, w6, w7, w8⟩ := h
  refine ⟨fun a ha => ?_, fun k hk => ?_, w3, w4, w5, ?_, w7, w8⟩
  · have ha2 : a ≠ t := fun q => ha (Or.inl q)
    obtain ⟨x1, x2, x3, x4⟩ := w1 a ha
    refine ⟨?_, x2, x3, x4⟩
    funext k; rw [mI_sI, if_neg (fun q => ha2 q.1), mI_sI, if_neg (fun q => ha2 q.1), x1]
  · by_cases h5 : k = 5
    · subst h5; rw [mI_sI, if_pos ⟨rfl, rfl⟩, mI_sI, if_pos ⟨rfl, rfl⟩]
    · rw [mI_sI, if_neg (fun q => h5 q.2), mI_sI, if_neg (fun q => h5 q.2)]; exact w2 k hk
  · funext k; rw [mI_sI, if_neg (by omega), mI_sI, if_neg (by omega), w6]
theorem WkE5' {t : Nat} {M K : Mem} (h : WkE t M K) : WkE t (sI M t 5 (mI K t 5)) K := by
  obtain ⟨w1, w2, w3, w4, w5, w6, w7, w8⟩ := h
  refine ⟨fun a ha => ?_, fun k hk => ?_, w3, w4, w5, ?_, w7, w8⟩
  · have ha2 : a ≠ t := fun q => ha (Or.inl q)
    obtain ⟨x1, x2, x3, x4⟩ := w1 a ha
    refine ⟨?_, x2, x3, x4⟩
    funext k; rw [mI_sI, if_neg (fun q => ha2 q.1), x1]
  · by_cases h5 : k = 5
    · subst h5; rw [mI_sI, if_pos ⟨rfl, rfl⟩]
    · rw [mI_sI, if_neg (fun q => h5 q.2)]; exact w2 k hk
  · funext k; rw [mI_sI, if_neg (by omega), w6]
theorem work7 {t c : Nat} {lo hi : Int32} {M : Mem} (hc : c + 1 ≠ t ∧ c + 1 ≠ t + 2) (hz : mN M (c + 1) < 2147483647) : So (FX7_work t c lo hi M) (fun r => WkE t (sI M t 5 (mI r.2 t 5)) r.2 ∧ match wkP (mN M (c + 1)) (mI M (c + 1)) (tlD (mI M (t + 1))) hi 400 lo [] with | none => r.1 = 0 | some v => r.1 = 1 ∧ mI r.2 t 5 = v.toInt32) := by
  unfold FX7_work
  refine So_nm ?_
  refine So_wl3 (fun p k N => ∃ i : Nat, ∃ s, i ≤ 400 ∧ k = Int32.ofNat i ∧ StR N t s ∧ WkE t M N ∧ wkP (mN M (c + 1)) (mI M (c + 1)) (tlD (mI M (t + 1))) hi 400 lo [] = wkP (mN M (c + 1)) (mI M (c + 1)) (tlD (mI M (t + 1))) hi (400 - i) p s) (fun _ k _ => 400 - ix k) ?_ fuel lo 0 _ ⟨0, [], by omega, rfl, ⟨by decide, by rw [mI_sI, if_pos ⟨rfl, rfl⟩]; rfl, fun i hi => absurd hi (by simp)⟩, WkE_h 0, rfl⟩ (by decide)
  rintro p k N rec ⟨i, s, hi4, rfl, hS, hW, he⟩ hr
  rw [he]
  have fin : wkP (mN M (c + 1)) (mI M (c + 1)) (tlD (mI M (t + 1))) hi (400 - i) p s = some (top s) → So (bdM (FX7_pop t N) fun r10 M9 => nm (sI M9 t 5 (r10.toInt32)) fun M11 => some (1, M11)) (fun r : Int32 × Mem => WkE t (sI M t 5 (mI r.2 t 5)) r.2 ∧ match wkP (mN M (c + 1)) (mI M (c + 1)) (tlD (mI M (t + 1))) hi (400 - i) p s with | none => r.1 = 0 | some v => r.1 = 1 ∧ mI r.2 t 5 = v.toInt32) := by
    intro hv
    rw [hv]
    refine So_bdM (pop7 hS) (fun r K hK => So_nm (So.ok ⟨?_, rfl, ?_⟩))
    · rw [show mI (sI K t 5 r.toInt32) t 5 = r.toInt32 by rw [mI_sI, if_pos ⟨rfl, rfl⟩]]
      exact WkE5 (hW.tr hK.2.2)
    · rw [mI_sI, if_pos ⟨rfl, rfl⟩, show r = top s from hK.1]
  have stop : i < 400 → (p < 0 ∨ hi ≤ p ∨ Int32.ofNat (mN M (c + 1)) ≤ p + 1) → wkP (mN M (c + 1)) (mI M (c + 1)) (tlD (mI M (t + 1))) hi (400 - i) p s = some (top s) := by
    intro h4 hs
    rw [show 400 - i = (399 - i) + 1 by omega]
    unfold wkP; rw [if_pos hs]
  have hNc : mN N (c + 1) = mN M (c + 1) := (hW.1 _ (by omega)).2.2.2
  have hIc : mI N (c + 1) = mI M (c + 1) := (hW.1 _ (by omega)).1
  refine So_jn0 ?_
  by_cases h4 : i < 400
  · rw [if_neg (show ¬ (400 : Int32) ≤ Int32.ofNat i from nle (n := 400) h4 (by decide)), hNc, hIc]
    by_cases c1 : p < 0
    · rw [if_pos c1]; exact fin (stop h4 (Or.inl c1))
    rw [if_neg c1]
    by_cases c2 : hi ≤ p
    · rw [if_pos c2]; exact fin (stop h4 (Or.inr (Or.inl c2)))
    rw [if_neg c2]
    by_cases c3 : Int32.ofNat (mN M (c + 1)) ≤ p + 1
    · rw [if_pos c3]; exact fin (stop h4 (Or.inr (Or.inr c3)))
    rw [if_neg c3]
    have hp : 0 ≤ p.toInt := by rw [Int32.lt_iff_toInt_lt, show (0 : Int32).toInt = 0 from rfl] at c1; omega
    have hph : p.toInt < hi.toInt := by rw [Int32.le_iff_toInt_le] at c2; omega
    have hh := hi.toInt_lt
    have hp1 : (p + 1).toInt = p.toInt + 1 := by
      rw [i_add]
      · rfl
      · show _ ≤ _ + (1 : Int); omega
      · show _ + (1 : Int) < _; omega
    have hsz : p.toInt + 1 < mN M (c + 1) := by
      rw [Int32.le_iff_toInt_le, nn_int (by omega), hp1] at c3; omega
    have go : ∀ q s', wk1 (mI M (c + 1) (ix p)) (mI M (c + 1) (ix (p + 1))) (tlD (mI M (t + 1))) p s = some (q, s') → wkP (mN M (c + 1)) (mI M (c + 1)) (tlD (mI M (t + 1))) hi (400 - i) p s = wkP (mN M (c + 1)) (mI M (c + 1)) (tlD (mI M (t + 1))) hi (400 - (i + 1)) q s' := by
      intro q s' hw
      rw [show 400 - i = (400 - (i + 1)) + 1 by omega]
      conv => lhs; unfold wkP
      rw [if_neg (fun z => z.elim c1 (fun z => z.elim c2 c3)), hw]
    have next : ∀ q s' K, wk1 (mI M (c + 1) (ix p)) (mI M (c + 1) (ix (p + 1))) (tlD (mI M (t + 1))) p s = some (q, s') → StR K t s' → WkE t M K → So (nm (Int32.ofNat i + 1) fun v24 => rec q v24 K) (fun r : Int32 × Mem => WkE t (sI M t 5 (mI r.2 t 5)) r.2 ∧ match wkP (mN M (c + 1)) (mI M (c + 1)) (tlD (mI M (t + 1))) hi (400 - i) p s with | none => r.1 = 0 | some v => r.1 = 1 ∧ mI r.2 t 5 = v.toInt32) := by
      intro q s' K hw hK hWK
      refine So_nm ?_
      rw [s1]
      refine (hr _ _ _ ⟨i + 1, s', by omega, rfl, hK, hWK, he.trans (go q s' hw)⟩ (by rw [nn_ix (by omega), nn_ix (by omega)]; omega)).mono ?_
      intro r hq; rw [he] at hq; exact hq
    refine So_gd (inb_iff.mpr (by omega)) (So_nm (So_gd (inb_iff.mpr (by omega)) (So_nm (So_nm (So_jn2 ?_)))))
    have hWI : mI N (t + 1) = mI M (t + 1) := (hW.1 _ (by omega)).1
    by_cases o0 : mI M (c + 1) (ix p) = 0
    · rw [if_neg (fun q => q o0)]
      refine So.bind (push7 _ hS) (fun K hK => next _ _ _ ?_ hK.1 (hW.tr hK.2))
      unfold wk1; rw [if_pos o0]
    rw [if_pos o0]
    by_cases o1 : mI M (c + 1) (ix p) = 1
    · rw [if_neg (fun q => q o1)]
      refine So.bindE (told7 _ _ _) (So.bind (push7 _ hS) (fun K hK => next _ _ _ ?_ hK.1 (hW.tr hK.2)))
      unfold wk1; rw [if_neg o0, if_pos o1, hWI]
    rw [if_pos o1]
    by_cases o10 : mI M (c + 1) (ix p) = 10
    · rw [if_neg (fun q => q o10)]
      refine So_bdM (pop7 hS) (fun r K hK => So.bind (push7 _ hK.2.1) (fun K2 hK2 => next _ _ _ ?_ hK2.1 ((hW.tr hK.2.2).tr hK2.2)))
      unfold wk1; rw [if_neg o0, if_neg o1, if_pos o10, show r = top s from hK.1]
    rw [if_pos o10]
    have jmp : (mI M (c + 1) (ix p) = 11 ∨ mI M (c + 1) (ix p) = 12) → So (bdM (FX7_pop t N) fun r28 M27 =>
            jn1 (fun (v29 : Int32) =>
              jn1 (fun (v32 : Int32) =>
                jn2 (fun (v35 : Int32) (M36 : Mem) => nm (Int32.ofNat i + 1) fun v24 => rec v35 v24 M36) fun j37 =>
                if ¬ v29 = v32 then
                  j37 (p + 2) M27
                else
                (FX7_push t r28 M27).bind fun M39 =>
                j37 (mI M (c + 1) (ix (p + 1))) M39) fun j33 =>
              if ¬ mI M (c + 1) (ix p) = 12 then
                j33 0
              else
              j33 1) fun j30 =>
            if r28 = 0 then
              j30 0
            else
            j30 1) (fun r : Int32 × Mem => WkE t (sI M t 5 (mI r.2 t 5)) r.2 ∧ match wkP (mN M (c + 1)) (mI M (c + 1)) (tlD (mI M (t + 1))) hi (400 - i) p s with | none => r.1 = 0 | some v => r.1 = 1 ∧ mI r.2 t 5 = v.toInt32) := by
      intro ho
      have hw : wk1 (mI M (c + 1) (ix p)) (mI M (c + 1) (ix (p + 1))) (tlD (mI M (t + 1))) p s = (if (decide (top s = 0)) = (decide (mI M (c + 1) (ix p) = 12)) then some (p + 2, s.tail) else some (mI M (c + 1) (ix (p + 1)), psh (top s) s.tail)) := by
        unfold wk1; rw [if_neg o0, if_neg o1, if_neg o10, if_pos ho]
      refine So_bdM (pop7 hS) (fun r K hK => So_jn1 ?_)
      obtain ⟨k1, k2, k3⟩ := hK
      obtain rfl : r = top s := k1
      by_cases z : top s = 0
      · rw [if_pos z]
        refine So_jn1 ?_
        by_cases z2 : mI M (c + 1) (ix p) = 12
        · rw [if_neg (fun q => q z2)]
          refine So_jn2 ?_
          rw [if_pos (by decide)]
          exact next _ _ _ (by rw [hw, if_pos (by simp [z, z2])]) k2 (hW.tr k3)
        · rw [if_pos z2]
          refine So_jn2 ?_
          rw [if_neg (by decide)]
          exact So.bind (push7 _ k2) (fun K2 hK2 => next _ _ _ (by rw [hw, if_neg (by simp [z, z2])]) hK2.1 ((hW.tr k3).tr hK2.2))
      · rw [if_neg z]
        refine So_jn1 ?_
        by_cases z2 : mI M (c + 1) (ix p) = 12
        · rw [if_neg (fun q => q z2)]
          refine So_jn2 ?_
          rw [if_neg (by decide)]
          exact So.bind (push7 _ k2) (fun K2 hK2 => next _ _ _ (by rw [hw, if_neg (by simp [z, z2])]) hK2.1 ((hW.tr k3).tr hK2.2))
        · rw [if_pos z2]
          refine So_jn2 ?_
          rw [if_pos (by decide)]
          exact next _ _ _ (by rw [hw, if_pos (by simp [z, z2])]) k2 (hW.tr k3)
    refine So_jn0 ?_
    by_cases o11 : mI M (c + 1) (ix p) = 11
    · rw [if_pos o11]; exact jmp (Or.inl o11)
    rw [if_neg o11]
    by_cases o12 : mI M (c + 1) (ix p) = 12
    · rw [if_neg (fun q => q o12)]; exact jmp (Or.inr o12)
    rw [if_pos o12]
    have hw : wk1 (mI M (c + 1) (ix p)) (mI M (c + 1) (ix (p + 1))) (tlD (mI M (t + 1))) p s = (jnP (mI M (c + 1) (ix p)) s).map (fun s' => (p + 2, s')) := by
      unfold wk1; rw [if_neg o0, if_neg o1, if_neg o10, if_neg (fun q => q.elim o11 o12)]
    refine So_bdM (join7 _ hS) (fun r K hK => ?_)
    obtain ⟨k1, k2⟩ := hK
    cases hj : jnP (mI M (c + 1) (ix p)) s with
    | none =>
      rw [hj] at k2 hw
      have k2' : r = 0 := k2
      rw [if_neg (fun q => q k2')]
      have hv : wkP (mN M (c + 1)) (mI M (c + 1)) (tlD (mI M (t + 1))) hi (400 - i) p s = none := by
        rw [show 400 - i = (400 - (i + 1)) + 1 by omega]
        unfold wkP
        rw [if_neg (fun z => z.elim c1 (fun z => z.elim c2 c3)), hw]; rfl
      rw [hv]
      exact So.ok ⟨WkE5' (hW.tr k1), rfl⟩
    | some s' =>
      rw [hj] at k2 hw
      obtain ⟨k2', k3⟩ := k2
      have k2'' : r = 1 := k2'
      rw [k2'', if_pos (by decide)]
      exact next _ _ _ hw k3 (hW.tr k1)
  · obtain rfl : i = 400 := by omega
    rw [if_pos (by decide)]; exact fin rfl
