/-! ===== objects that are being made ===== -/
theorem Wat.raw {w : WX} {M : Mem} {a ci n : Nat} (h : Wat w a (40 + ci) n) (hc : ci < 20) : cE w M a = .inr (ci, (List.range (nf ci)).map (fvr ci M a)) := by
  rw [h.ate M]; unfold cEk; rw [if_neg (by omega), if_pos (by omega), show 40 + ci - 40 = ci by omega]
theorem Wat.rawA {w : WX} {M : Mem} {a c n : Nat} (h : Wat w a (60 + c) n) : cE w M a = .inl (wAy w c, n, .inr (.inr (.inr (.inr (mR M a))))) := by
  rw [h.ate M]; unfold cEk; rw [if_pos (by omega), show 60 + c - 60 = c by omega]
theorem fsr_get {ci N : Nat} {M : Mem} {a k : Nat} (h : k < N) : ((List.range N).map (fvr ci M a))[k]? = some (fvr ci M a k) := by
  rw [List.getElem?_map, List.getElem?_range h]; rfl
theorem fsr_set {ci N : Nat} {M M' : Mem} {a k : Nat} {v : Value} (h : fvr ci M' a k = v) (ho : ∀ j, j ≠ k → fvr ci M' a j = fvr ci M a j) : ((List.range N).map (fvr ci M a)).set k v = (List.range N).map (fvr ci M' a) := by
  apply List.ext_getElem?
  intro j
  rw [List.getElem?_set]
  by_cases hj : k = j
  · subst hj
    rw [if_pos rfl, List.length_map, List.length_range]
    by_cases hk : k < N
    · rw [if_pos hk, fsr_get hk, h]
    · rw [if_neg hk, List.getElem?_eq_none (by rw [List.length_map, List.length_range]; omega)]
  · rw [if_neg hj, List.getElem?_map, List.getElem?_map]
    cases hr : (List.range N)[j]? with
    | none => rfl
    | some i =>
      obtain ⟨h1, h2⟩ := List.getElem?_eq_some_iff.mp hr
      rw [List.getElem_range] at h2
      subst h2
      simp only [Option.map_some]
      rw [ho j (fun q => hj q.symm)]
theorem mtk_raw {kd k : Nat} (h : 40 ≤ kd) : mtk kd k = none := by
  unfold mtk
  rw [if_neg (by omega), if_neg (by omega), if_neg (by omega), if_neg (by omega)]
theorem sI_fvr {ci : Nat} {M : Mem} {a k : Nat} {v : Int32} (hk : fk ci k = 0) : fvr ci (sI M a k v) a k = .int v ∧ ∀ j, j ≠ k → fvr ci (sI M a k v) a j = fvr ci M a j := by
  constructor
  · unfold fvr; rw [hk]
    show Value.int (up2 M.1 a k v a k) = _
    rw [up2_s, va_up_self]
  · intro j hj
    unfold fvr
    have : mI (sI M a k v) a j = mI M a j := by
      show up2 M.1 a k v a j = _
      rw [up2_s, va_up_ne _ _ hj]; rfl
    rw [this]; rfl
theorem sJ_fvr {ci : Nat} {M : Mem} {a k : Nat} {v : Int64} (hk : fk ci k = 1) : fvr ci (sJ M a k v) a k = .long v ∧ ∀ j, j ≠ k → fvr ci (sJ M a k v) a j = fvr ci M a j := by
  constructor
  · unfold fvr; rw [hk]
    show Value.long (up2 M.2.1 a k v a k) = _
    rw [up2_s, va_up_self]
  · intro j hj
    unfold fvr
    have : mJ (sJ M a k v) a j = mJ M a j := by
      show up2 M.2.1 a k v a j = _
      rw [up2_s, va_up_ne _ _ hj]; rfl
    rw [this]; rfl
theorem sR_fvr {ci : Nat} {M : Mem} {a k z : Nat} {v : Option Nat} (hk : fk ci k = z + 2) : fvr ci (sR M a k v) a k = va_rf v ∧ ∀ j, j ≠ k → fvr ci (sR M a k v) a j = fvr ci M a j := by
  constructor
  · unfold fvr; rw [hk]
    show va_rf (up2 M.2.2.1 a k v a k) = _
    rw [up2_s, va_up_self]
  · intro j hj
    unfold fvr
    have : mR (sR M a k v) a j = mR M a j := by
      show up2 M.2.2.1 a k v a j = _
      rw [up2_s, va_up_ne _ _ hj]; rfl
    rw [this]; rfl
/-- a field as a constructor writes it -/
def FW (own : String) (idx ci k : Nat) (ty : FieldType) : Prop := ∃ (Cn : String) (T : u_T) (ty0 : Nat → FieldType), cls[ci]? = some (Cn, T, nf ci) ∧ (∀ q ∈ u_ws Cn T (nf ci), q ∈ UW) ∧ k < nf ci ∧ Cond.fieldLink own idx (T k).1 (T k).2.1 (T k).2.2.1 ∈ UW ∧ (∀ j, j < nf ci → parseFieldDescriptor (T j).2.2.1 = some (ty0 j)) ∧ (∀ a, a < nf ci → ∀ b, b < nf ci → a ≠ b → (T a).2.1 ≠ (T b).2.1) ∧ (T k).1 = own ∧ parseFieldDescriptor (T k).2.2.1 = some ty
section RB
variable {τ : Type} {own : String} {nL fr lo : Nat} {ret : Option FieldType} {w : WX} {x : MX} {Q : τ → State → Prop} {pc : Nat} {L L' : List (Nat × Value)} {rest : List Value} {M M' : Mem} {f : Option τ} {t K N : Nat} {G : List (Nat × Nat)}
theorem q_getW {ci n idx k a : Nat} {v : Value} (hx : Ok own nL ret fr lo w x) (hdg : decode (xc x).code pc = .ok (.getfield idx, 3)) (hf : FL own idx ci k) (ha : Wat w a (40 + ci) n) (hv : fvr ci M a k = v) (hc : ci < 20) (kk : C x w Q nL (pc + 3) L (v :: rest) M f) : C x w Q nL pc L (.ref a :: rest) M f := by
  intro t ht H locs ls hH hS hl
  obtain ⟨Cn, T, h1, h2, h3, h4⟩ := hf
  obtain ⟨q0, hq⟩ := wcl_get (M := M) ha.1
  rw [ha.raw hc] at hq
  exact va_get hx.1 rfl hx.2.2.1 h2 hx.2.1 hx.2.2.2.1.2.1 hH.1 q0 hq h1 k h3 (hx.2.2.1 _ h4) (fun _ h => h) (by rw [fsr_get h3, hv]) hdg (kk t ht H locs ls hH hS hl)
theorem q_putW {ci n idx k a : Nat} {v : Value} {ty : FieldType} (hx : Ok own nL ret fr lo w x) (hdg : decode (xc x).code pc = .ok (.putfield idx, 3)) (hin : (xt x).name = "<init>") (hf : FW own idx ci k ty) (ha : Wat w a (40 + ci) n) (hc : ci < 20) (hn : narrow ty v = v) (hfit : fits ty v = true) (hfv : fvr ci M' a k = v ∧ ∀ j, j ≠ k → fvr ci M' a j = fvr ci M a j) (hup : cE w M' = va_up (cE w M) a (cE w M' a)) (hWT : WT w M → WT w M') (kk : C x w Q nL (pc + 3) L rest M' f) : C x w Q nL pc L (v :: .ref a :: rest) M f := by
  intro t ht H locs ls hH hS hl
  obtain ⟨Cn, T, ty0, h1, h2, h3, h4, h5, h6, h7, h8⟩ := hf
  obtain ⟨q0, hq⟩ := wcl_get (M := M) ha.1
  have hq' := hq
  rw [ha.raw hc] at hq'
  have fin : ∀ (H1 : Heap) (locs1 : List Loc), va_P (wD w) cls ((wcl w M).set q0 (a, .inr (ci, ((List.range (nf ci)).map (fvr ci M a)).set k v))) H1 → va_D (A0 w) ((wcl w M).set q0 (a, .inr (ci, ((List.range (nf ci)).map (fvr ci M a)).set k v))) → va_S (A0 w) (xs_ x).heap H1 locs1 → W (xp x) (xl x) (xe x) (xR x) (xs_ x) (xm x) (xa x) (xb x) (xt x) (xc x) H1 locs1 (xk x) (xn x) (Q t) (F0 (xm x) (pc + 3) ls rest) := by
    intro H1 locs1 hP1 hD1 hS1
    rw [fsr_set hfv.1 hfv.2, wcl_set (M' := M') hH.2.1 ha.1 hq hup (ha.raw hc)] at hP1 hD1
    exact kk t ht H1 locs1 ls ⟨hP1, hD1, hWT hH.2.2⟩ hS1 hl
  by_cases hfin : (T k).2.2.2 = false
  · exact va_put hx.1 rfl hx.2.2.1 h2 ty0 h5 h6 hx.2.1 hx.2.2.2.1.2.1 hH.1 hH.2.1 hS q0 hq' h1 k h3 (hx.2.2.1 _ h4) (fun _ h => h) hfin h8 hn hfit (by rw [List.length_map, List.length_range]; exact h3) hdg fin
  · exact va_putF hx.1 rfl hx.2.2.1 h2 ty0 h5 h6 hx.2.1 hx.2.2.2.1.2.1 hH.1 hH.2.1 hS q0 hq' h1 k h3 (hx.2.2.1 _ h4) (fun _ h => h) (by cases h : (T k).2.2.2 <;> simp_all) hin h7 h8 hn hfit (by rw [List.length_map, List.length_range]; exact h3) hdg fin
theorem q_putWI {ci n idx k a : Nat} {v : Int32} {ty : FieldType} (hx : Ok own nL ret fr lo w x) (hdg : decode (xc x).code pc = .ok (.putfield idx, 3)) (hin : (xt x).name = "<init>") (hf : FW own idx ci k ty) (ha : Wat w a (40 + ci) n) (hk : fk ci k = 0) (hc : ci < 20) (hn : narrow ty (.int v) = .int v) (hfit : fits ty (.int v) = true) (kk : C x w Q nL (pc + 3) L rest (sI M a k v) f) : C x w Q nL pc L (.int v :: .ref a :: rest) M f :=
  q_putW hx hdg hin hf ha hc hn hfit (sI_fvr hk) (cE_sI w M a k v) (fun h => h.I (fun _ => rfl)) kk
theorem q_putWJ {ci n idx k a : Nat} {v : Int64} (hx : Ok own nL ret fr lo w x) (hdg : decode (xc x).code pc = .ok (.putfield idx, 3)) (hin : (xt x).name = "<init>") (hf : FW own idx ci k .long) (ha : Wat w a (40 + ci) n) (hk : fk ci k = 1) (hc : ci < 20) (kk : C x w Q nL (pc + 3) L rest (sJ M a k v) f) : C x w Q nL pc L (.long v :: .ref a :: rest) M f :=
  q_putW hx hdg hin hf ha hc rfl rfl (sJ_fvr hk) (cE_sJ w M a k v) (fun h => h.I (fun _ => rfl)) kk
theorem q_putWR {ci n idx k a z : Nat} {v : Nat} {ty : FieldType} (hx : Ok own nL ret fr lo w x) (hdg : decode (xc x).code pc = .ok (.putfield idx, 3)) (hin : (xt x).name = "<init>") (hf : FW own idx ci k ty) (ha : Wat w a (40 + ci) n) (hk : fk ci k = z + 2) (hc : ci < 20) (hn : narrow ty (.ref v) = .ref v) (hfit : fits ty (.ref v) = true) (kk : C x w Q nL (pc + 3) L rest (sR M a k (some v)) f) : C x w Q nL pc L (.ref v :: .ref a :: rest) M f :=
  q_putW hx hdg hin hf ha hc hn hfit (sR_fvr hk) (cE_sR w M a k (some v)) (fun h => h.R ha (fun kd' b hm _ => by rw [mtk_raw (by omega)] at hm; cases hm)) kk
/-- an element of an array of references that is being filled -/
theorem q_aastR {k a c n v ci : Nat} {r : vw_C} {i : Int32} (hx : Ok own nL ret fr lo w x) (hdg : decode (xc x).code pc = .ok (.aastore, 1)) (ha : Wat w a (60 + c) n) (hi : inb i n = true) (hk : ix i = k) (hv : Wat w v ci 0) (hci : ci < 20) (hc : cls[ci]? = some r) (ht : (wtys w)[c]? = some (wAy w c, .object r.1)) (kk : C x w Q nL (pc + 1) L rest (sR M a k (some v)) f) : C x w Q nL pc L (.ref v :: .int i :: .ref a :: rest) M f := by
  subst hk
  intro t ht9 H locs ls hH hS hl
  obtain ⟨q0, hq⟩ := wcl_get (M := M) ha.1
  have hq' := hq
  rw [ha.rawA] at hq'
  obtain ⟨qk, hqk⟩ := wcl_get (M := M) hv.1
  rw [hv.obj hci] at hqk
  refine va_astq (r := r) hx.1 rfl hx.2.2.2.1.2.1 hH.1 hH.2.1 hS q0 c qk ci hq' ht hqk hc (inb_in hi) hdg (fun H1 locs1 hP1 hD1 hS1 => ?_)
  rw [wcl_set (M' := sR M a (ix i) (some v)) hH.2.1 ha.1 hq (cE_sR w M a _ (some v)) (by rw [ha.rawA, sR_self])] at hP1 hD1
  exact kk t ht9 H1 locs1 ls ⟨hP1, hD1, hH.2.2.R ha (fun kd' b hm _ => by rw [mtk_raw (by omega)] at hm; cases hm)⟩ hS1 hl
theorem q_objI {idx a : Nat} (hx : Ok own nL ret fr lo w x) (hdg : decode (xc x).code pc = .ok (.invokespecial idx, 3)) (hlk : Cond.methodLink own idx Lib.objectInit ∈ UW) (hin : Cond.instanceMethod Lib.objectInit ∈ UW) (hcd : Cond.code Lib.objectInit ⟨#[0xb1]⟩ 1 none ∈ UW) (hR : 1 ≤ fr ∧ 20 ≤ lo) (hcat : (rest.map fun v => v.category).sum ≤ 8) (kk : C x w Q nL (pc + 3) L rest M f) : C x w Q nL pc L (.ref a :: rest) M f := by
  intro t ht H locs ls hH hS hl
  have hU := hx.2.2.1
  exact W.objInit hx.1 rfl hx.2.1 (hU _ hlk) (hU _ hin) (hU _ hcd) rfl (by show ls.size = _; rw [hx.2.2.2.2.2.2.2]; exact hl.1) rfl hdg (by rw [hx.2.2.2.2.2.2.1.1]; exact hR.1) (by rw [hx.2.2.2.2.2.2.1.2.1]; show 2 * 0 + _ + 12 ≤ lo; omega) (kk t ht H locs ls hH hS hl)
/-- the same cells, told otherwise -/
theorem q_hol {w' : WX} {st : List Value} (h1 : wz w' = wz w) (h : ∀ H, Hol w M H → Hol w' M' H) (kk : C x w' Q nL pc L st M' f) : C x w Q nL pc L st M f := fun t ht H locs ls hH hS hl => kk t ht H locs ls (h H hH) (by show va_S (fun q => wz w' ≤ q) _ _ _; rw [h1]; exact hS) hl
end RB
