/-! ===== an order, once, on both sides ===== -/
theorem JT.cls {Λ : Lam} {t u T : Nat} {A A' B : Mem} (h : JT Λ t u T A B) (e : ∀ q, ((t + 1 ≤ q ∧ q < t + 10) ∨ (t + 29 ≤ q ∧ q < t + 96) ∨ (t + 179 ≤ q ∧ q < t + 191) ∨ (u + 42 ≤ q ∧ q < T)) → Ea A A' q) : JT Λ t u T A' B := by
  obtain ⟨h1, h2, h3, h4, h5, h6⟩ := h
  exact ⟨h1, h2, h3.keep (fun q a b => e q (by omega)) (fun q a b => e q (by omega)) (Nat.le_refl _), h4.keep (fun q a b => e q (by omega)) rfl rfl rfl, h5.keep (fun q a b => e q (by omega)) (fun q a b => e q (by omega)) (Nat.le_refl _), h6⟩
theorem JT.fit {Λ : Lam} {t u T : Nat} {A B : Mem} (h : JT Λ t u T A B) : ∃ n I N, FX10_fit (t + 179) (t + 1) (mI A (t + 1) 8) (t + 1 + 1) A = some N ∧ FtE (t + 179) A N ∧ JT Λ t u T N B ∧ FitW t u n I N B := by
  obtain ⟨hu, hT, hS, hH, hW, h20⟩ := h
  obtain ⟨n, c1, c2, c3, c4, c5, c6⟩ := id hS.2.2.2.2.1
  obtain ⟨x, x1, x2, x3⟩ := SRl.law c1 c2 c6 c5
  rw [← c4] at x1
  obtain ⟨N, n1, n2, n3, n4, n5⟩ := fit_c (w := t + 179) (b := t + 1) (p := t + 1 + 1) (by omega) (by omega) (by omega) hW x1 x2
  refine ⟨_, _, N, n1, n2, ⟨hu, hT, hS.keep (fun q a b => n2 q (by omega)) (fun q a b => n2 q (by omega)) (Nat.le_refl _), hH.keep (fun q a b => n2 q (by omega)) rfl rfl rfl, n3, h20⟩, ?_, ?_, x3⟩
  · rw [n4]; exact hS.2.2.2.2.2.2.2.1
  · have e1 : mI A (t + 1 + 1) 12 = mI B (u + 2) 8 := hS.1.2.2.2.2.2.2.2.2.2.2.2.1
    have e2 : mI A (t + 1 + 8) 1 = mI B (u + 2) 6 := hS.2.2.2.2.2.2.1
    rw [e1, e2] at n5
    exact n5
/-- what running orders changes -/
def OC (t q : Nat) : Prop := CAc t q ∨ (t + 176 ≤ q ∧ q < t + 191)
def OR (u q : Nat) : Prop := RAc u q ∨ q = u + 19
def OFr (t u : Nat) (A A' B B' : Mem) : Prop := Eo (OC t) A A' ∧ Eo (OR u) B B' ∧ (∀ k, k ∉ ([8, 20, 34, 38, 62, 63, 65] : List Nat) → mI B' u k = mI B u k) ∧ (∀ k, k < 8 ∨ 130 ≤ k → mI B' (u + 2) k = mI B (u + 2) k) ∧ ∀ k, 1952 ≤ k → mI B' (u + 5) k = mI B (u + 5) k
theorem OFr.rf {t u : Nat} {A B : Mem} : OFr t u A A B B := ⟨Eo.rf, Eo.rf, fun _ _ => rfl, fun _ _ => rfl, fun _ _ => rfl⟩
theorem OFr.tr {t u : Nat} {A A' A2 B B' B2 : Mem} (h : OFr t u A A' B B') (h2 : OFr t u A' A2 B' B2) : OFr t u A A2 B B2 := ⟨h.1.tr h2.1, h.2.1.tr h2.2.1, fun k a => (h2.2.2.1 k a).trans (h.2.2.1 k a), fun k a => (h2.2.2.2.1 k a).trans (h.2.2.2.1 k a), fun k a => (h2.2.2.2.2 k a).trans (h.2.2.2.2 k a)⟩
theorem AcE.of {t u : Nat} {A A' B B' : Mem} (h : AcE t u A A' B B') : OFr t u A A' B B' := ⟨h.1.up (fun _ a => Or.inl a), h.2.1.up (fun _ a => Or.inl a), fun k hk => h.2.2.1 k (fun z => hk (by rw [z]; decide)) (fun z => hk (by rw [z]; decide)) (fun z => hk (by rw [z]; decide)), h.2.2.2⟩
theorem OFr.c {t u : Nat} {A A' B : Mem} (e : Eo (OC t) A A') : OFr t u A A' B B := ⟨e, Eo.rf, fun _ _ => rfl, fun _ _ => rfl, fun _ _ => rfl⟩
theorem OFr.r {t u : Nat} {A B B' : Mem} (e : Eo (fun q => q = u ∨ q = u + 19 ∨ q = u + 20) B B') (eu : ∀ k, k ∉ ([8, 20, 34, 38, 62, 63, 65] : List Nat) → mI B' u k = mI B u k) : OFr t u A A B B' := ⟨Eo.rf, e.up (fun q hq => by unfold OR RAc; omega), eu, fun k _ => by rw [(e (u + 2) (by omega)).1], fun k _ => by rw [(e (u + 5) (by omega)).1]⟩
/-- what holds between the orders of a text -/
def OT (Λ : Lam) (t u T n len lr : Nat) (I : Nat → CI) (A B : Mem) (d : Nat) : Prop := JT Λ t u T A B ∧ TXT A (t + 173) n len I ∧ lr ≤ 400 ∧ TxO (mI B (u + 11)) (mI B (u + 12)) (mI B (u + 40)) lr n I ∧ mI A (t + 177) 1 = Int32.ofNat d ∧ mI B u 62 = Int32.ofNat d ∧ mI A (t + 177) 2 = mI B u 63
def clO {τ : Type} (t p1 : Nat) (p2 r1 : Int32) (M4 : Mem) (J Z : Mem → Option τ) : Option τ :=
    (FX11_tellTable t M4).bind fun M7 =>
    (FX10_fit (t + 179) (t + 1) (mI M7 (t + 1) 8) ((t + 1) + 1) M7).bind fun M13 =>
    bdM (FX7_isSo (t + 176) p1 p2 M13) fun r16 M15 =>
    jn1 J fun j18 =>
    if ¬ r16 = 0 then
      bdM (FX7_workBoth (t + 176) p1 p2 M15) fun r23 M22 =>
      if ¬ r23 = 0 then
        jn2 (fun (v24 : Int32) (M25 : Mem) =>
          if 0 ≤ v24 then
            (FX7_told (t + 176) 1 M25).bind fun r30 =>
            (FX7_tell (t + 176) 1 (r30 + 1) M25).bind fun M31 =>
            if ¬ r1 = 8 then
              j18 M31
            else
            (FX7_tell (t + 176) 2 v24 M31).bind fun M33 =>
            j18 M33
          else
          Z M25) fun j26 =>
        sw r1.toInt 7 [
          bdM (FX11_makeLay t (mI M22 (t + 176) 2) (mI M22 (t + 176) 3) M22) fun r39 M38 =>
          j26 r39 M38,
          bdM (FX11_makePlay t (mI M22 (t + 176) 2) (mI M22 (t + 176) 3) M22) fun r43 M42 =>
          j26 r43 M42,
          bdM (FX11_makeShow t M22) fun r45 M44 =>
          j26 r45 M44,
          bdM (FX11_makeDeal t (mI M22 (t + 176) 2) M22) fun r48 M47 =>
          j26 r48 M47]
        (bdM (FX11_makeShow t M22) fun r35 M34 =>
          j26 r35 M34)
      else
      Z M22
    else
    j18 M15
def actC (t kind : Nat) (x y : Int32) (M : Mem) : Option (Int32 × Mem) := if kind = 7 then FX11_makeLay t x y M else if kind = 8 then FX11_makePlay t x y M else if kind = 9 then FX11_makeShow t M else FX11_makeDeal t x M
def actR (u kind : Nat) (x y : Int32) (M : Mem) : Option (Int32 × Mem) := if kind = 7 then FX12_layNow u x y M else if kind = 8 then FX12_playNow u x y M else if kind = 9 then FX12_showNow u M else FX12_dealNow u x M
theorem bd_id {M : Option (Int32 × Mem)} : (bdM M fun r X => some (r, X)) = M := by
  cases M with
  | none => rfl
  | some q => rfl
theorem act_r {u kind : Nat} {x y : Int32} {M : Mem} (hk : 7 ≤ kind ∧ kind ≤ 10) : FX12_act u (Int32.ofNat (aK kind)) x y M = actR u kind x y M := by
  unfold FX12_act
  obtain rfl | rfl | rfl | rfl : kind = 7 ∨ kind = 8 ∨ kind = 9 ∨ kind = 10 := by omega
  · show (bdM (FX12_layNow u x y M) fun r X => some (r, X)) = _
    rw [bd_id]; rfl
  · show (bdM (FX12_playNow u x y M) fun r X => some (r, X)) = _
    rw [bd_id]; rfl
  · show (bdM (FX12_showNow u M) fun r X => some (r, X)) = _
    rw [bd_id]; rfl
  · show (bdM (FX12_dealNow u x M) fun r X => some (r, X)) = _
    rw [bd_id]; rfl
theorem acts {Λ : Lam} {t u T n kind : Nat} {I : Nat → CI} {A B : Mem} (h : JT Λ t u T A B) (f : FitW t u n I A B) (x y y' : Int32) (x' : Int32) (hx : kind ≠ 9 → x' = x) (hy : (kind = 7 ∨ kind = 8) → y' = y) : ActR Λ t u T A B (actC t kind x y A) (actR u kind x' y' B) := by
  unfold actC actR
  by_cases k7 : kind = 7
  · rw [if_pos k7, if_pos k7, hx (by omega), hy (by omega)]; exact lay_act h f x y
  rw [if_neg k7, if_neg k7]
  by_cases k8 : kind = 8
  · rw [if_pos k8, if_pos k8, hx (by omega), hy (by omega)]; exact play_act h f x y
  rw [if_neg k8, if_neg k8]
  by_cases k9 : kind = 9
  · rw [if_pos k9, if_pos k9]; exact show_act h f
  rw [if_neg k9, if_neg k9, hx k9]; exact deal_act h x
theorem sw_c {τ : Type} {t kind : Nat} {x y : Int32} {M : Mem} {j : Int32 → Mem → Option τ} (hk : 7 ≤ kind ∧ kind ≤ 10) : (sw (Int32.ofNat kind).toInt 7 [
          bdM (FX11_makeLay t x y M) fun r39 M38 => j r39 M38,
          bdM (FX11_makePlay t x y M) fun r43 M42 => j r43 M42,
          bdM (FX11_makeShow t M) fun r45 M44 => j r45 M44,
          bdM (FX11_makeDeal t x M) fun r48 M47 => j r48 M47]
        (bdM (FX11_makeShow t M) fun r35 M34 => j r35 M34)) = bdM (actC t kind x y M) j := by
  obtain rfl | rfl | rfl | rfl : kind = 7 ∨ kind = 8 ∨ kind = 9 ∨ kind = 10 := by omega
  all_goals rfl
/-- the class's part of an order whose sums are known -/
theorem clO_act {τ : Type} {Λ : Lam} {t u T n len lr kind d : Nat} {I : Nat → CI} {A' B' : Mem} {v : Int32} {J Z : Mem → Option τ} (hk : 7 ≤ kind ∧ kind ≤ 10) (hv : 0 ≤ v.toInt) (h1 : mI A' (t + 177) 1 = Int32.ofNat d) : (if 0 ≤ v then
            (FX7_told (t + 176) 1 A').bind fun r30 =>
            (FX7_tell (t + 176) 1 (r30 + 1) A').bind fun M31 =>
            if ¬ Int32.ofNat kind = 8 then
              J M31
            else
            (FX7_tell (t + 176) 2 v M31).bind fun M33 =>
            J M33
          else
          Z A') = J (if kind = 8 then sI (sI A' (t + 177) 1 (Int32.ofNat (d + 1))) (t + 177) 2 v else sI A' (t + 177) 1 (Int32.ofNat (d + 1))) := by
  have e8 : (Int32.ofNat kind = 8) ↔ kind = 8 := nn_eq (b := 8) (by omega) (by omega)
  rw [if_pos (show (0 : Int32) ≤ v by rw [Int32.le_iff_toInt_le]; exact hv), ob (told7 _ _ _), show tlD (mI A' (t + 176 + 1)) 1 = Int32.ofNat d from h1, show Int32.ofNat d + 1 = Int32.ofNat (d + 1) from nn_add d 1, ob (show FX7_tell (t + 176) 1 _ A' = _ from tell7 (t := t + 176) (k := 1) (by decide))]
  by_cases z : kind = 8
  · rw [if_neg (fun y => y (e8.mpr z)), if_pos z, ob (show FX7_tell (t + 176) 2 _ _ = _ from tell7 (t := t + 176) (k := 2) (by decide))]
  · rw [if_pos (fun y => z (e8.mp y)), if_neg z]
