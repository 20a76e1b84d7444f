theorem term_so {b k : Nat} {M : Mem} (hk : 1 ≤ k ∧ k ≤ 3) : FX6_term b (Int32.ofNat k) M = some (mI M (b + 8) (k - 1)) := by
  apply So.eq
  unfold FX6_term
  refine So_jn1 (So_jn0 ?_)
  have e : Int32.ofNat k - 1 = Int32.ofNat (k - 1) := nn_sub (b := 1) (by omega) (by omega)
  rw [if_neg (show ¬ Int32.ofNat k < 1 from fun z => by have := (nn_lt (b := 1) (by omega) (by omega)).mp z; omega), if_neg (show ¬ (4 : Int32) ≤ Int32.ofNat k from nle (n := 4) (by omega) (by decide)), e, nn_ix (by omega)]
  exact So_gd (inb_nn (by omega) (by decide)) (So.ok rfl)
theorem WTab.keep {M N : Mem} {w n : Nat} {I : Nat → CI} {deal mood : Int32} (h : WTab M w I n deal mood) (e : ∀ q, w ≤ q → q < w + 12 → Ea M N q) : WTab N w I n deal mood := by
  refine ⟨fun c hc => ?_, ?_, fun kind k1 k2 pl hp it i1 i2 => ?_⟩
  · rw [(e (w + 4) (by omega) (by omega)).1]; exact h.1 c hc
  · rw [(e w (by omega) (by omega)).2.1]; exact h.2.1
  · rw [(e (w + 6 + kind) (by omega) (by omega)).1]; exact h.2.2 kind k1 k2 pl hp it i1 i2
theorem LV.keep {Λ : Lam} {M N : Mem} {lo T : Nat} {x : Option Nat} (h : LV Λ M lo T x) (e : ∀ q, lo ≤ q → q < T → Ea M N q) : LV Λ N lo T x := fun a ha => by
  obtain ⟨h1, h2, h3⟩ := h a ha
  exact ⟨h1, h2, h3.keep (e _ (by omega) (by omega)) (e _ (by omega) (by omega)) (e _ (by omega) (by omega))⟩
theorem fit_c {Λ : Lam} {w b p lo T : Nat} {f : Int32} {x : Option Nat} {M : Mem} (hlo : w + 12 ≤ lo) (hb : b + 9 ≤ w ∨ w + 12 ≤ b) (hp : p + 4 ≤ w ∨ w + 12 ≤ p) (hR : WR Λ M lo T w) (hx : FX6_lawAt b f M = some x) (hL : LV Λ M lo T x) : So (FX10_fit w b f p M) (fun N => FtE w M N ∧ WR Λ N lo T w ∧ mI N w 4 = mI M (b + 8) 2 ∧ WTab N w (LOf Λ x).2 (LOf Λ x).1 (mI M p 12) (mI M (b + 8) 1)) := by
  obtain ⟨hz, h5, hT⟩ := hR
  unfold FX10_fit
  refine So.bindE hx (So_nm (So.bindE (term_so (b := b) (k := 2) (by decide)) (So.bindE (term_so (b := b) (k := 3) (by decide)) (So_nm ?_))))
  generalize hdeal : mI M p 12 = deal
  generalize hmood : mI M (b + 8) 1 = mood
  generalize htgt : mI M (b + 8) 2 = tgt
  generalize hM6 : sI M w 4 tgt = M6
  have E6 : Eo (fun q => q = w) M M6 := by rw [← hM6]; exact Eo_sI (P := fun q => q = w) rfl
  have f6 : ∀ k, k ≠ 4 → mI M6 w k = mI M w k := fun k hk => by rw [← hM6, mI_sI, if_neg (fun z => hk z.2)]
  have j6 : mJ M6 w = mJ M w := by rw [← hM6]; rfl
  have r6 : mR M6 w = mR M w := by rw [← hM6]; rfl
  have F6 : FtE w M M6 := E6.up (fun a ha => by omega)
  have t6 : mI M6 w 4 = tgt := by rw [← hM6, mI_sI, if_pos ⟨rfl, rfl⟩]
  have L6 : LV Λ M6 lo T x := hL.keep (fun q h1 h2 => F6 q (by omega))
  -- all is laid anew
  have anew : So (nm (sI M6 w 5 1) fun M12 => nm (sR M12 w 6 x) fun M13 => nm (sI M13 w 7 deal) fun M14 => nm (sI M14 w 8 mood) fun M15 => (FX10_setStandard w M15).bind fun M16 => (FX7_tell (w + 1) 0 (mI M16 w 7) M16).bind fun M18 => (FX7_tell (w + 1) 5 (mI M18 w 8) M18).bind fun M20 => wl2 (fun (v21 : Int32) (M22 : Mem) rec23 => jn0 (some M22) fun j25 => if x = none then j25 else x.bind fun b28 => if (mI M22 b28 3) ≤ v21 then j25 else (FX9_at b28 v21 0 M22).bind fun r31 => jn1 (fun (M32 : Mem) => nm (v21 + 1) fun v35 => rec23 v35 M32) fun j33 => jn0 ((FX10_askOfCards w b28 v21 r31 M22).bind fun M38 => j33 M38) fun j36 => if r31 = 0 then j36 else if ¬ r31 = 6 then (FX10_askOfCounts w b28 v21 r31 M22).bind fun M39 => j33 M39 else j36) fuel 0 M20) (fun N => FtE w M N ∧ WR Λ N lo T w ∧ mI N w 4 = tgt ∧ WTab N w (LOf Λ x).2 (LOf Λ x).1 deal mood) := by
    refine So_nm (So_nm (So_nm (So_nm ?_)))
    generalize hM15 : sI (sI (sR (sI M6 w 5 1) w 6 x) w 7 deal) w 8 mood = M15
    have E15 : Eo (fun q => q = w) M6 M15 := by rw [← hM15]; exact (((Eo_sI (P := fun q => q = w) rfl).tr (Eo_sR rfl)).tr (Eo_sI rfl)).tr (Eo_sI rfl)
    have c4 : mI M15 w 4 = tgt := by rw [← hM15, mI_sI, if_neg (by simp), mI_sI, if_neg (by simp), mI_sR, mI_sI, if_neg (by simp)]; exact t6
    have c5 : mI M15 w 5 = 1 := by rw [← hM15, mI_sI, if_neg (by simp), mI_sI, if_neg (by simp), mI_sR, mI_sI, if_pos ⟨rfl, rfl⟩]
    have c7 : mI M15 w 7 = deal := by rw [← hM15, mI_sI, if_neg (by simp), mI_sI, if_pos ⟨rfl, rfl⟩]
    have c8 : mI M15 w 8 = mood := by rw [← hM15, mI_sI, if_pos ⟨rfl, rfl⟩]
    have cr : mR M15 w 6 = x := by rw [← hM15, mR_sI, mR_sI, mR_sR, if_pos ⟨rfl, rfl⟩]
    refine So.bind (setStandard_c (LOf Λ x).2 deal mood) (fun M16 h16 => ?_)
    obtain ⟨s1', s2, s3, s4, s5⟩ := h16
    refine So.bindE (tell7 (t := w + 1) (k := 0) (by decide)) (So.bindE (tell7 (t := w + 1) (k := 5) (by decide)) ?_)
    have e8 : mI (sI M16 (w + 1 + 1) 0 (mI M16 w 7)) w 8 = mood := by rw [mI_sI, if_neg (by omega), s3]; exact c8
    rw [e8, s3, c7]
    generalize hM20 : sI (sI M16 (w + 1 + 1) 0 deal) (w + 1 + 1) 5 mood = M20
    have E20 : Eo (fun q => q = w + 2) M16 M20 := by rw [← hM20]; exact Eo.tr (Eo_sI (P := fun q => q = w + 2) rfl) (Eo_sI rfl)
    have W20 : WW M20 w deal mood := by
      rw [← hM20]
      refine ⟨?_, ?_, fun k k1 k2 => ?_⟩
      · rw [mI_sI, if_neg (by simp), mI_sI, if_pos ⟨rfl, rfl⟩]
      · rw [mI_sI, if_pos ⟨rfl, rfl⟩]
      · rw [mI_sI, if_neg (by omega), mI_sI, if_neg (by omega), s5, (E15 (w + 2) (by omega)).1, (E6 (w + 2) (by omega)).1]; exact hz k k1 k2
    have T20 : WTab M20 w (LOf Λ x).2 0 deal mood := by
      refine ⟨fun c hc => ?_, ?_, fun kind k1 k2 pl hp it i1 i2 => ?_⟩
      · rw [(E20 (w + 4) (by omega)).1]; exact s2.1 c hc
      · rw [(E20 w (by omega)).2.1]; exact s2.2.1
      · rw [(E20 (w + 6 + kind) (by omega)).1]; exact s2.2.2 kind k1 k2 pl hp it i1 i2
    have F20 : FtE w M M20 := ((F6.tr (E15.up (fun a ha => by omega))).tr s1').tr (E20.up (fun a ha => by omega))
    have k20 : ∀ k, mI M20 w k = mI M15 w k := fun k => by rw [(E20 w (by omega)).1]; exact s3 k
    have r20 : mR M20 w = mR M15 w := (E20 w (by omega)).2.2.1.trans s4
    have fin : ∀ K, FtE w M K → WW K w deal mood → WTab K w (LOf Λ x).2 (LOf Λ x).1 deal mood → (∀ k, k ≠ 3 → mI K w k = mI M15 w k) → mR K w = mR M15 w → So (some K) (fun N => FtE w M N ∧ WR Λ N lo T w ∧ mI N w 4 = tgt ∧ WTab N w (LOf Λ x).2 (LOf Λ x).1 deal mood) := fun K a1 a2 a3 a4 a5 => by
      refine So.ok ⟨a1, ⟨a2.2.2, Or.inr (by rw [a4 5 (by decide)]; exact c5), fun _ => ?_⟩, by rw [a4 4 (by decide)]; exact c4, a3⟩
      rw [a5, cr, a4 7 (by decide), a4 8 (by decide), c7, c8]
      exact ⟨hL.keep (fun q h1 h2 => a1 q (by omega)), a3⟩
    cases x with
    | none =>
      refine So_wl2 (fun v K => K = M20) (fun _ _ => 0) ?_ fuel 0 M20 rfl (by unfold fuel; omega)
      rintro v K rec rfl _
      refine So_jn0 ?_
      rw [if_pos rfl]
      exact fin K F20 W20 T20 (fun k _ => k20 k) r20
    | some a =>
      obtain ⟨la, lb, len, v1, v2, v3, v4, v5⟩ := hL a rfl
      have ha : a + 3 ≤ w ∨ w + 12 ≤ a := Or.inr (by omega)
      have hn12 := v2.1
      refine So_wl2 (fun v K => ∃ k, k ≤ (Λ a).1 ∧ v = Int32.ofNat k ∧ FtE w M K ∧ WW K w deal mood ∧ WTab K w (Λ a).2 k deal mood ∧ (∀ k, k ≠ 3 → mI K w k = mI M15 w k) ∧ mR K w = mR M15 w) (fun v _ => 12 - ix v) ?_ fuel 0 M20 ⟨0, by omega, rfl, F20, W20, T20, fun k _ => k20 k, r20⟩ (by unfold fuel; omega)
      rintro v K rec ⟨k, hk, rfl, a1, a2, a3, a4, a5⟩ hr
      refine So_jn0 ?_
      rw [if_neg (show ¬ some a = none by simp)]
      show So (if mI K a 3 ≤ Int32.ofNat k then _ else _) _
      have e3 : mI K a 3 = Int32.ofNat (Λ a).1 := by rw [(a1 a (by omega)).1]; exact v1
      rw [e3]
      by_cases ce : k = (Λ a).1
      · rw [if_pos (by rw [ce]; exact Int32.le_refl _)]
        subst ce
        exact fin K a1 a2 a3 a4 a5
      · rw [if_neg (nle (show k < (Λ a).1 by omega) (by omega))]
        have tx : TXT K a (Λ a).1 len (Λ a).2 := v2.keep (a1 _ (by omega)) (a1 _ (by omega))
        obtain ⟨a1', a2', a3', a4', cc0, _⟩ := tx.2.2.2.2.2.2.1 k (by omega)
        have hkk := (v5 k (by omega)).1
        refine So.bindE (at_so (col := 0) (by have := tx.2.2.2.2.1; omega) tx.2.2.2.2.2.1) ?_
        have cc0 : mI K (a + 2) (6 * k + 0) = Int32.ofNat ((Λ a).2 k).1 := cc0
        rw [cc0]
        have mm : (12 - ix (Int32.ofNat (k + 1))) < 12 - ix (Int32.ofNat k) := by rw [nn_ix (by omega), nn_ix (by omega)]; omega
        refine So_jn1R (fun K' => FtE w M K' ∧ WW K' w deal mood ∧ WTab K' w (Λ a).2 (k + 1) deal mood ∧ (∀ k, k ≠ 3 → mI K' w k = mI M15 w k) ∧ mR K' w = mR M15 w) (fun K' hK' => So_nm ?_) (fun j33 hj33 => ?_)
        · rw [s1]
          exact hr _ _ ⟨k + 1, by omega, rfl, hK'⟩ mm
        · have e0 : (Int32.ofNat ((Λ a).2 k).1 = 0) ↔ ((Λ a).2 k).1 = 0 := nn_eq (b := 0) (by omega) (by omega)
          have e6 : (Int32.ofNat ((Λ a).2 k).1 = 6) ↔ ((Λ a).2 k).1 = 6 := nn_eq (b := 6) (by omega) (by omega)
          refine So_jn0C (((Λ a).2 k).1 = 0 ∨ ((Λ a).2 k).1 = 6) (fun h06 => ?_) (fun j36 hj36 => ?_)
          · refine So.bind (askOfCards_c ha tx (by omega) h06 a2 a3) (fun K' hK' => hj33 _ ?_)
            obtain ⟨x1, x2, x3, x4, x5⟩ := hK'
            exact ⟨a1.tr x1, x2, x3, fun k hk => by rw [x4 k hk]; exact a4 k hk, by rw [x5]; exact a5⟩
          · by_cases z0 : ((Λ a).2 k).1 = 0
            · rw [if_pos (e0.mpr z0)]; exact hj36 (Or.inl z0)
            rw [if_neg (fun y => z0 (e0.mp y))]
            by_cases z6 : ((Λ a).2 k).1 = 6
            · rw [if_neg (fun y => y (e6.mpr z6))]; exact hj36 (Or.inr z6)
            rw [if_pos (fun y => z6 (e6.mp y))]
            refine So.bind (askOfCounts_c ha tx (by omega) ⟨by omega, by omega⟩ a2 a3) (fun K' hK' => hj33 _ ?_)
            obtain ⟨x1, x2, x3, x4, x5⟩ := hK'
            exact ⟨a1.tr x1, x2, x3, fun k hk => by rw [x4 k]; exact a4 k hk, by rw [x5]; exact a5⟩
  -- or as it was
  refine So_jn1R (fun v => v = 0 ∨ (v = 1 ∧ ∀ a, x = some a → mI M a 4 = 0 ∨ (mI M w 7 = deal ∧ mI M w 8 = mood))) (fun v7 hv7 => So_jn0R anew (fun j10 hj10 => ?_)) (fun j8 hj8 => So_jn0C (∀ a, x = some a → mI M a 4 = 0 ∨ (mI M w 7 = deal ∧ mI M w 8 = mood)) (fun hC => hj8 _ (Or.inr ⟨rfl, hC⟩)) (fun j43 hj43 => ?_))
  · rw [f6 5 (by decide)]
    refine So.ite (fun _ => hj10) (fun n5 => So_nm (So.ite (fun hrx => So.ite (fun _ => hj10) (fun n7 => So.ok ?_)) (fun _ => hj10)))
    rw [r6] at hrx
    have c5 : mI M w 5 = 1 := h5.resolve_left n5
    obtain ⟨y1, y2⟩ := hT c5
    rw [hrx] at y1 y2
    have y3 : WTab M w (LOf Λ x).2 (LOf Λ x).1 deal mood := by
      have hC := (hv7.resolve_left n7).2
      cases x with
      | none => exact y2.ind (fun i hi => absurd hi (Nat.not_lt_zero _))
      | some a =>
        obtain ⟨_, _, len, v1, v2, v3, v4, v5⟩ := hL a rfl
        rcases hC a rfl with z | ⟨z1, z2⟩
        · exact y2.ind (fun i hi => ⟨(v4 z i hi).1, (v5 i hi).2, (v4 z i hi).2⟩)
        · rw [z1, z2] at y2; exact y2
    have kp : ∀ n I d m, WTab M w I n d m → WTab M6 w I n d m := fun n I d m h => by
      refine ⟨fun c hc => ?_, ?_, fun kind k1 k2 pl hp it i1 i2 => ?_⟩
      · rw [(E6 (w + 4) (by omega)).1]; exact h.1 c hc
      · rw [j6]; exact h.2.1
      · rw [(E6 (w + 6 + kind) (by omega)).1]; exact h.2.2 kind k1 k2 pl hp it i1 i2
    refine ⟨F6, ⟨fun k k1 k2 => by rw [(E6 (w + 2) (by omega)).1]; exact hz k k1 k2, by rw [f6 5 (by decide)]; exact h5, fun _ => ?_⟩, t6, kp _ _ _ _ y3⟩
    rw [r6, hrx, f6 7 (by decide), f6 8 (by decide)]
    exact ⟨L6, kp _ _ _ _ y2⟩
  · cases x with
    | none => rw [if_pos rfl]; exact hj43 (fun a ha => by cases ha)
    | some a =>
      rw [if_neg (show ¬ some a = none by simp)]
      obtain ⟨la, lb, _⟩ := hL a rfl
      have e4 : mI M6 a 4 = mI M a 4 := by rw [(E6 a (by omega)).1]
      show So (if mI M6 a 4 = 0 then j43 else _) _
      rw [e4, f6 7 (by decide), f6 8 (by decide)]
      refine So.ite (fun z => hj43 (fun a' ha' => by cases ha'; exact Or.inl z)) (fun z => So_jn0C True (fun _ => hj8 _ (Or.inl rfl)) (fun j49 hj49 => ?_))
      refine So.ite (fun _ => hj49 trivial) (fun z7 => So.ite (fun _ => hj49 trivial) (fun z8 => hj43 (fun a' ha' => by cases ha'; exact Or.inr ⟨Classical.not_not.mp z7, Classical.not_not.mp z8⟩)))
