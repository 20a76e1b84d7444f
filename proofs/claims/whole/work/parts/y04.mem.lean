/-! ===== rows over memory, constants, switches, returns ===== -/
def FL (own : String) (idx ci k : Nat) : Prop := ∃ (Cn : String) (T : u_T), cls[ci]? = some (Cn, T, nf ci) ∧ (∀ q ∈ u_ws Cn T (nf ci), q ∈ UW) ∧ k < nf ci ∧ Cond.fieldLink own idx (T k).1 (T k).2.1 (T k).2.2.1 ∈ UW
def FP (own : String) (idx ci k : Nat) (ty : FieldType) : Prop := ∃ (Cn : String) (T : u_T) (ty0 : Nat → FieldType), cls[ci]? = some (Cn, T, nf ci) ∧ (∀ q ∈ u_ws Cn T (nf ci), q ∈ UW) ∧ k < nf ci ∧ Cond.fieldLink own idx (T k).1 (T k).2.1 (T k).2.2.1 ∈ UW ∧ (∀ j, j < nf ci → parseFieldDescriptor (T j).2.2.1 = some (ty0 j)) ∧ (∀ a, a < nf ci → ∀ b, b < nf ci → a ≠ b → (T a).2.1 ≠ (T b).2.1) ∧ (T k).2.2.2 = false ∧ parseFieldDescriptor (T k).2.2.1 = some ty
theorem isB_cases {v : Int32} (h : isB v = true) : v = 0 ∨ v = 1 := by
  simpa [isB] using h
theorem isB_nar {v : Int32} (h : isB v = true) : narrow .boolean (.int v) = .int v := by
  rcases isB_cases h with rfl | rfl <;> rfl
theorem isB_fit {v : Int32} (h : isB v = true) : fits .boolean (.int v) = true := by
  rcases isB_cases h with rfl | rfl <;> rfl
theorem isB_vp {v : Int32} (h : isB v = true) : vp_nar .boolean v = v := by
  rcases isB_cases h with rfl | rfl <;> rfl
theorem upd_up (f : Nat → Int32) (k : Nat) (v : Int32) : upd f k v = va_up f k v := rfl
theorem updL_up (f : Nat → Int64) (k : Nat) (v : Int64) : vp_updL f k v = va_up f k v := rfl
theorem Wat.obj {w : WX} {M : Mem} {a ci n : Nat} (h : Wat w a ci n) (hc : ci < 20) : cE w M a = .inr (ci, (List.range (nf ci)).map (fv ci M a)) := by
  rw [h.ate M]; unfold cEk; rw [if_neg (by omega), if_neg (by omega), if_pos hc]
theorem Wat.ints {w : WX} {M : Mem} {a n : Nat} (h : Wat w a 20 n) : cE w M a = .inl (wAy w 0, n, .inl (mI M a)) := by rw [h.ate M]; rfl
theorem Wat.longs {w : WX} {M : Mem} {a n : Nat} (h : Wat w a 21 n) : cE w M a = .inl (wAy w 1, n, .inr (.inl (mJ M a))) := by rw [h.ate M]; rfl
theorem Wat.bools {w : WX} {M : Mem} {a n : Nat} (h : Wat w a 22 n) : cE w M a = .inl (wAy w 2, n, .inl (mI M a)) := by rw [h.ate M]; rfl
theorem Wat.dyn {w : WX} {M : Mem} {a n : Nat} (h : Wat w a 23 n) : cE w M a = .inl (wAy w 0, mN M a, .inl (mI M a)) := by rw [h.ate M]; rfl
theorem Wat.txa {w : WX} {M : Mem} {a n : Nat} (h : Wat w a 36 n) : cE w M a = .inl (wAy w 7, n, .inr (.inr (.inr (.inr (mR M a))))) := by rw [h.ate M]; rfl
theorem afn_ge {kd c off st ek en : Nat} (h : afn kd = some (c, off, st, ek, en)) : (¬ 60 ≤ kd ∧ ¬ 40 ≤ kd) ∧ ¬ kd < 20 ∧ ¬ kd = 20 ∧ ¬ kd = 21 ∧ ¬ kd = 22 ∧ ¬ kd = 23 := by
  unfold afn at h
  split at h <;> first | (refine ⟨⟨?_, ?_⟩, ?_, ?_, ?_, ?_, ?_⟩ <;> omega) | cases h
theorem Wat.aff {w : WX} {M : Mem} {a kd n c off st ek en : Nat} (h : Wat w a kd n) (ha : afn kd = some (c, off, st, ek, en)) : cE w M a = .inl (wAy w c, n, .inr (.inr (.inr (.inr (fun i => some (a + off + st * i)))))) := by
  obtain ⟨⟨h8, h9⟩, h1, h2, h3, h4, h5⟩ := afn_ge ha
  rw [h.ate M]; unfold cEk
  rw [if_neg h8, if_neg h9, if_neg h1, if_neg h2, if_neg h3, if_neg h4, if_neg h5, ha]
theorem sI_fv {ci : Nat} {M : Mem} {a k : Nat} {v : Int32} (hk : fk ci k = 0) : fv ci (sI M a k v) a k = .int v ∧ ∀ j, j ≠ k → fv ci (sI M a k v) a j = fv ci M a j := by
  constructor
  · unfold fv; rw [hk]
    show Value.int (up2 M.1 a k v a k) = _
    rw [up2_s, va_up_self]
  · intro j hj
    unfold fv
    have : mI (sI M a k v) a j = mI M a j := by
      show up2 M.1 a k v a j = _
      rw [up2_s, va_up_ne _ _ hj]; rfl
    rw [this]; rfl
theorem sJ_fv {ci : Nat} {M : Mem} {a k : Nat} {v : Int64} (hk : fk ci k = 1) : fv ci (sJ M a k v) a k = .long v ∧ ∀ j, j ≠ k → fv ci (sJ M a k v) a j = fv ci M a j := by
  constructor
  · unfold fv; rw [hk]
    show Value.long (up2 M.2.1 a k v a k) = _
    rw [up2_s, va_up_self]
  · intro j hj
    unfold fv
    have : mJ (sJ M a k v) a j = mJ M a j := by
      show up2 M.2.1 a k v a j = _
      rw [up2_s, va_up_ne _ _ hj]; rfl
    rw [this]; rfl
theorem sR_fv {ci : Nat} {M : Mem} {a k : Nat} {v : Option Nat} (hk : fk ci k = 2) : fv ci (sR M a k v) a k = va_rf v ∧ ∀ j, j ≠ k → fv ci (sR M a k v) a j = fv ci M a j := by
  constructor
  · unfold fv; rw [hk]
    show va_rf (up2 M.2.2.1 a k v a k) = _
    rw [up2_s, va_up_self]
  · intro j hj
    unfold fv
    have : mR (sR M a k v) a j = mR M a j := by
      show up2 M.2.2.1 a k v a j = _
      rw [up2_s, va_up_ne _ _ hj]; rfl
    rw [this]; rfl
section RX
variable {τ : Type} {own : String} {nL fr lo : Nat} {ret : Option FieldType} {w : WX} {x : MX} {Q : τ → State → Prop} {pc : Nat} {L L' : List (Nat × Value)} {rest : List Value} {M : Mem} {f : Option τ}
theorem r_get {ci n idx k a : Nat} {v : Value} {pc' : Nat} (hx : Ok own nL ret fr lo w x) (hdg : decode (xc x).code pc = .ok (.getfield idx, 3)) (hf : FL own idx ci k) (ha : Wat w a ci n) (hv : fv ci M a k = v) (hc : ci < 20) (hp : pc + 3 = pc') (kk : C x w Q nL pc' L (v :: rest) M f) : C x w Q nL pc L (.ref a :: rest) M f := by
  subst hp
  intro t ht H locs ls hH hS hl
  obtain ⟨Cn, T, h1, h2, h3, h4⟩ := hf
  obtain ⟨q0, hq⟩ := wcl_get (M := M) ha.1
  rw [ha.obj hc] at hq
  exact va_get hx.1 rfl hx.2.2.1 h2 hx.2.1 hx.2.2.2.1.2.1 hH.1 q0 hq h1 k h3 (hx.2.2.1 _ h4) (fun _ h => h) (by rw [fs_get h3, hv]) hdg (kk t ht H locs ls hH hS hl)
theorem q_putG {ci n idx k a : Nat} {v : Value} {ty : FieldType} {M' : Mem} (hx : Ok own nL ret fr lo w x) (hdg : decode (xc x).code pc = .ok (.putfield idx, 3)) (hf : FP own idx ci k ty) (ha : Wat w a ci n) (hc : ci < 20) (hn : narrow ty v = v) (hfit : fits ty v = true) (hfv : fv ci M' a k = v ∧ ∀ j, j ≠ k → fv ci M' a j = fv ci M a j) (hup : cE w M' = va_up (cE w M) a (cE w M' a)) (hWT : WT w M → WT w M') (kk : C x w Q nL (pc + 3) L rest M' f) : C x w Q nL pc L (v :: .ref a :: rest) M f := by
  intro t ht H locs ls hH hS hl
  obtain ⟨Cn, T, ty0, h1, h2, h3, h4, h5, h6, h7, h8⟩ := hf
  obtain ⟨q0, hq⟩ := wcl_get (M := M) ha.1
  have hq' := hq
  rw [ha.obj hc] at hq'
  refine va_put hx.1 rfl hx.2.2.1 h2 ty0 h5 h6 hx.2.1 hx.2.2.2.1.2.1 hH.1 hH.2.1 hS q0 hq' h1 k h3 (hx.2.2.1 _ h4) (fun _ h => h) h7 h8 hn hfit (by rw [List.length_map, List.length_range]; exact h3) hdg (fun H1 locs1 hP1 hD1 hS1 => ?_)
  rw [fs_set hfv.1 hfv.2, wcl_set (M' := M') hH.2.1 ha.1 hq hup (ha.obj hc)] at hP1 hD1
  exact kk t ht H1 locs1 ls ⟨hP1, hD1, hWT hH.2.2⟩ hS1 hl
theorem r_putIE {ci n idx k a : Nat} {v : Int32} {f : Option τ} {pc' : Nat} (hx : Ok own nL ret fr lo w x) (hdg : decode (xc x).code pc = .ok (.putfield idx, 3)) (hf : FP own idx ci k .int) (ha : Wat w a ci n) (hk : fk ci k = 0) (hc : ci < 20) (hp : pc + 3 = pc') (kk : C x w Q nL pc' L rest (sI M a k v) f) : C x w Q nL pc L (.int v :: .ref a :: rest) M f := by
  subst hp
  exact q_putG hx hdg hf ha hc rfl rfl (sI_fv hk) (cE_sI w M a k v) (fun h => h.I (fun _ => rfl)) kk
theorem r_putI {ci n idx k a : Nat} {v : Int32} {f : Mem → Option τ} {pc' : Nat} (hx : Ok own nL ret fr lo w x) (hdg : decode (xc x).code pc = .ok (.putfield idx, 3)) (hf : FP own idx ci k .int) (ha : Wat w a ci n) (hk : fk ci k = 0) (hc : ci < 20) (hp : pc + 3 = pc') (kk : ∀ M', C x w Q nL pc' L rest M' (f M')) : C x w Q nL pc L (.int v :: .ref a :: rest) M (nm (sI M a k v) f) := by
  subst hp
  exact r_putIE hx hdg hf ha hk hc rfl (kk _)
theorem r_putZE {ci n idx k a : Nat} {v : Int32} {f : Option τ} {pc' : Nat} (hx : Ok own nL ret fr lo w x) (hdg : decode (xc x).code pc = .ok (.putfield idx, 3)) (hf : FP own idx ci k .boolean) (ha : Wat w a ci n) (hk : fk ci k = 0) (hc : ci < 20) (hb : isB v = true) (hp : pc + 3 = pc') (kk : C x w Q nL pc' L rest (sI M a k v) f) : C x w Q nL pc L (.int v :: .ref a :: rest) M f := by
  subst hp
  exact q_putG hx hdg hf ha hc (isB_nar hb) (isB_fit hb) (sI_fv hk) (cE_sI w M a k v) (fun h => h.I (fun _ => rfl)) kk
theorem r_putZ {ci n idx k a : Nat} {v : Int32} {f : Mem → Option τ} {pc' : Nat} (hx : Ok own nL ret fr lo w x) (hdg : decode (xc x).code pc = .ok (.putfield idx, 3)) (hf : FP own idx ci k .boolean) (ha : Wat w a ci n) (hk : fk ci k = 0) (hc : ci < 20) (hb : isB v = true) (hp : pc + 3 = pc') (kk : ∀ M', C x w Q nL pc' L rest M' (f M')) : C x w Q nL pc L (.int v :: .ref a :: rest) M (nm (sI M a k v) f) := by
  subst hp
  exact r_putZE hx hdg hf ha hk hc hb rfl (kk _)
theorem r_putJE {ci n idx k a : Nat} {v : Int64} {f : Option τ} {pc' : Nat} (hx : Ok own nL ret fr lo w x) (hdg : decode (xc x).code pc = .ok (.putfield idx, 3)) (hf : FP own idx ci k .long) (ha : Wat w a ci n) (hk : fk ci k = 1) (hc : ci < 20) (hp : pc + 3 = pc') (kk : C x w Q nL pc' L rest (sJ M a k v) f) : C x w Q nL pc L (.long v :: .ref a :: rest) M f := by
  subst hp
  exact q_putG hx hdg hf ha hc rfl rfl (sJ_fv hk) (cE_sJ w M a k v) (fun h => h.I (fun _ => rfl)) kk
theorem r_putJ {ci n idx k a : Nat} {v : Int64} {f : Mem → Option τ} {pc' : Nat} (hx : Ok own nL ret fr lo w x) (hdg : decode (xc x).code pc = .ok (.putfield idx, 3)) (hf : FP own idx ci k .long) (ha : Wat w a ci n) (hk : fk ci k = 1) (hc : ci < 20) (hp : pc + 3 = pc') (kk : ∀ M', C x w Q nL pc' L rest M' (f M')) : C x w Q nL pc L (.long v :: .ref a :: rest) M (nm (sJ M a k v) f) := by
  subst hp
  exact r_putJE hx hdg hf ha hk hc rfl (kk _)
theorem r_putRE {ci n idx k a : Nat} {v : Option Nat} {Cn : String} {f : Option τ} {pc' : Nat} (hx : Ok own nL ret fr lo w x) (hdg : decode (xc x).code pc = .ok (.putfield idx, 3)) (hf : FP own idx ci k (.object Cn)) (ha : Wat w a ci n) (hk : fk ci k = 2) (hc : ci < 20) (hv : ∀ kd' b, mtk ci k = some kd' → v = some b → Wat w b kd' 0) (hp : pc + 3 = pc') (kk : C x w Q nL pc' L rest (sR M a k v) f) : C x w Q nL pc L (va_rf v :: .ref a :: rest) M f := by
  subst hp
  exact q_putG hx hdg hf ha hc (by cases v <;> rfl) (by cases v <;> rfl) (sR_fv hk) (cE_sR w M a k v) (fun h => h.R ha hv) kk
theorem r_putR {ci n idx k a : Nat} {v : Option Nat} {Cn : String} {f : Mem → Option τ} {pc' : Nat} (hx : Ok own nL ret fr lo w x) (hdg : decode (xc x).code pc = .ok (.putfield idx, 3)) (hf : FP own idx ci k (.object Cn)) (ha : Wat w a ci n) (hk : fk ci k = 2) (hc : ci < 20) (hv : ∀ kd' b, mtk ci k = some kd' → v = some b → Wat w b kd' 0) (hp : pc + 3 = pc') (kk : ∀ M', C x w Q nL pc' L rest M' (f M')) : C x w Q nL pc L (va_rf v :: .ref a :: rest) M (nm (sR M a k v) f) := by
  subst hp
  exact r_putRE hx hdg hf ha hk hc hv rfl (kk _)
theorem sI_self (M : Mem) (a k : Nat) (v : Int32) : mI (sI M a k v) a = va_up (mI M a) k v := up2_s
theorem sJ_self (M : Mem) (a k : Nat) (v : Int64) : mJ (sJ M a k v) a = va_up (mJ M a) k v := up2_s
theorem sR_self (M : Mem) (a k : Nat) (v : Option Nat) : mR (sR M a k v) a = va_up (mR M a) k v := up2_s
theorem r_iald {k a n : Nat} {i : Int32} {pc' : Nat} (hx : Ok own nL ret fr lo w x) (hdg : decode (xc x).code pc = .ok (.iaload, 1)) (ha : Wat w a 20 n) (hi : inb i n = true) (hk : ix i = k) (hp : pc + 1 = pc') (kk : C x w Q nL pc' L (.int (mI M a (k)) :: rest) M f) : C x w Q nL pc L (.int i :: .ref a :: rest) M f := by
  subst hp
  subst hk
  intro t ht H locs ls hH hS hl
  obtain ⟨q0, hq⟩ := wcl_get (M := M) ha.1
  rw [ha.ints] at hq
  exact va_iald hx.1 rfl hx.2.2.2.1.2.1 hH.1 q0 0 hq rfl (inb_in hi) hdg (kk t ht H locs ls hH hS hl)
theorem r_ialdD {k a n : Nat} {i : Int32} {pc' : Nat} (hx : Ok own nL ret fr lo w x) (hdg : decode (xc x).code pc = .ok (.iaload, 1)) (ha : Wat w a 23 n) (hi : inb i (mN M a) = true) (hk : ix i = k) (hp : pc + 1 = pc') (kk : C x w Q nL pc' L (.int (mI M a (k)) :: rest) M f) : C x w Q nL pc L (.int i :: .ref a :: rest) M f := by
  subst hp
  subst hk
  intro t ht H locs ls hH hS hl
  obtain ⟨q0, hq⟩ := wcl_get (M := M) ha.1
  rw [ha.dyn] at hq
  exact va_iald hx.1 rfl hx.2.2.2.1.2.1 hH.1 q0 0 hq rfl (inb_in hi) hdg (kk t ht H locs ls hH hS hl)
theorem r_lald {k a n : Nat} {i : Int32} {pc' : Nat} (hx : Ok own nL ret fr lo w x) (hdg : decode (xc x).code pc = .ok (.laload, 1)) (ha : Wat w a 21 n) (hi : inb i n = true) (hk : ix i = k) (hp : pc + 1 = pc') (kk : C x w Q nL pc' L (.long (mJ M a (k)) :: rest) M f) : C x w Q nL pc L (.int i :: .ref a :: rest) M f := by
  subst hp
  subst hk
  intro t ht H locs ls hH hS hl
  obtain ⟨q0, hq⟩ := wcl_get (M := M) ha.1
  rw [ha.longs] at hq
  exact va_lald hx.1 rfl hx.2.2.2.1.2.1 hH.1 q0 1 hq rfl (inb_in hi) hdg (kk t ht H locs ls hH hS hl)
theorem r_zald {k a n : Nat} {i : Int32} {pc' : Nat} (hx : Ok own nL ret fr lo w x) (hdg : decode (xc x).code pc = .ok (.baload, 1)) (ha : Wat w a 22 n) (hi : inb i n = true) (hk : ix i = k) (hp : pc + 1 = pc') (kk : C x w Q nL pc' L (.int (mI M a (k)) :: rest) M f) : C x w Q nL pc L (.int i :: .ref a :: rest) M f := by
  subst hp
  subst hk
  intro t ht H locs ls hH hS hl
  obtain ⟨q0, hq⟩ := wcl_get (M := M) ha.1
  rw [ha.bools] at hq
  exact va_zald hx.1 rfl hx.2.2.2.1.2.1 hH.1 q0 2 hq rfl (inb_in hi) hdg (kk t ht H locs ls hH hS hl)
theorem r_iastE {k a n : Nat} {i v : Int32} {f : Option τ} {pc' : Nat} (hx : Ok own nL ret fr lo w x) (hdg : decode (xc x).code pc = .ok (.iastore, 1)) (ha : Wat w a 20 n) (hi : inb i n = true) (hk : ix i = k) (hp : pc + 1 = pc') (kk : C x w Q nL pc' L rest (sI M a (k) v) f) : C x w Q nL pc L (.int v :: .int i :: .ref a :: rest) M f := by
  subst hp
  subst hk
  intro t ht H locs ls hH hS hl
  obtain ⟨q0, hq⟩ := wcl_get (M := M) ha.1
  have hq' := hq
  rw [ha.ints] at hq'
  refine va_iast hx.1 rfl hx.2.2.2.1.2.1 hH.1 hH.2.1 hS q0 0 hq' rfl (inb_in hi) hdg (fun H1 locs1 hP1 hD1 hS1 => ?_)
  rw [wcl_set (M' := sI M a (ix i) v) hH.2.1 ha.1 hq (cE_sI w M a _ v) (by rw [ha.ints, sI_self, ← upd_up])] at hP1 hD1
  exact kk t ht H1 locs1 ls ⟨hP1, hD1, hH.2.2.I (fun _ => rfl)⟩ hS1 hl
theorem r_iast {k a n : Nat} {i v : Int32} {f : Mem → Option τ} {pc' : Nat} (hx : Ok own nL ret fr lo w x) (hdg : decode (xc x).code pc = .ok (.iastore, 1)) (ha : Wat w a 20 n) (hi : inb i n = true) (hk : ix i = k) (hp : pc + 1 = pc') (kk : ∀ M', C x w Q nL pc' L rest M' (f M')) : C x w Q nL pc L (.int v :: .int i :: .ref a :: rest) M (nm (sI M a (k) v) f) := by
  subst hp
  exact r_iastE hx hdg ha hi hk rfl (kk _)
theorem r_iastDE {k a n : Nat} {i v : Int32} {f : Option τ} {pc' : Nat} (hx : Ok own nL ret fr lo w x) (hdg : decode (xc x).code pc = .ok (.iastore, 1)) (ha : Wat w a 23 n) (hi : inb i (mN M a) = true) (hk : ix i = k) (hp : pc + 1 = pc') (kk : C x w Q nL pc' L rest (sI M a (k) v) f) : C x w Q nL pc L (.int v :: .int i :: .ref a :: rest) M f := by
  subst hp
  subst hk
  intro t ht H locs ls hH hS hl
  obtain ⟨q0, hq⟩ := wcl_get (M := M) ha.1
  have hq' := hq
  rw [ha.dyn] at hq'
  refine va_iast hx.1 rfl hx.2.2.2.1.2.1 hH.1 hH.2.1 hS q0 0 hq' rfl (inb_in hi) hdg (fun H1 locs1 hP1 hD1 hS1 => ?_)
  rw [wcl_set (M' := sI M a (ix i) v) hH.2.1 ha.1 hq (cE_sI w M a _ v) (by rw [ha.dyn, sI_self, ← upd_up]; rfl)] at hP1 hD1
  exact kk t ht H1 locs1 ls ⟨hP1, hD1, hH.2.2.I (fun _ => rfl)⟩ hS1 hl
theorem r_iastD {k a n : Nat} {i v : Int32} {f : Mem → Option τ} {pc' : Nat} (hx : Ok own nL ret fr lo w x) (hdg : decode (xc x).code pc = .ok (.iastore, 1)) (ha : Wat w a 23 n) (hi : inb i (mN M a) = true) (hk : ix i = k) (hp : pc + 1 = pc') (kk : ∀ M', C x w Q nL pc' L rest M' (f M')) : C x w Q nL pc L (.int v :: .int i :: .ref a :: rest) M (nm (sI M a (k) v) f) := by
  subst hp
  exact r_iastDE hx hdg ha hi hk rfl (kk _)
theorem r_lastE {k a n : Nat} {i : Int32} {v : Int64} {f : Option τ} {pc' : Nat} (hx : Ok own nL ret fr lo w x) (hdg : decode (xc x).code pc = .ok (.lastore, 1)) (ha : Wat w a 21 n) (hi : inb i n = true) (hk : ix i = k) (hp : pc + 1 = pc') (kk : C x w Q nL pc' L rest (sJ M a (k) v) f) : C x w Q nL pc L (.long v :: .int i :: .ref a :: rest) M f := by
  subst hp
  subst hk
  intro t ht H locs ls hH hS hl
  obtain ⟨q0, hq⟩ := wcl_get (M := M) ha.1
  have hq' := hq
  rw [ha.longs] at hq'
  refine va_last hx.1 rfl hx.2.2.2.1.2.1 hH.1 hH.2.1 hS q0 1 hq' rfl (inb_in hi) hdg (fun H1 locs1 hP1 hD1 hS1 => ?_)
  rw [wcl_set (M' := sJ M a (ix i) v) hH.2.1 ha.1 hq (cE_sJ w M a _ v) (by rw [ha.longs, sJ_self, ← updL_up])] at hP1 hD1
  exact kk t ht H1 locs1 ls ⟨hP1, hD1, hH.2.2.I (fun _ => rfl)⟩ hS1 hl
theorem r_last {k a n : Nat} {i : Int32} {v : Int64} {f : Mem → Option τ} {pc' : Nat} (hx : Ok own nL ret fr lo w x) (hdg : decode (xc x).code pc = .ok (.lastore, 1)) (ha : Wat w a 21 n) (hi : inb i n = true) (hk : ix i = k) (hp : pc + 1 = pc') (kk : ∀ M', C x w Q nL pc' L rest M' (f M')) : C x w Q nL pc L (.long v :: .int i :: .ref a :: rest) M (nm (sJ M a (k) v) f) := by
  subst hp
  exact r_lastE hx hdg ha hi hk rfl (kk _)
theorem r_zastE {k a n : Nat} {i v : Int32} {f : Option τ} {pc' : Nat} (hx : Ok own nL ret fr lo w x) (hdg : decode (xc x).code pc = .ok (.bastore, 1)) (ha : Wat w a 22 n) (hi : inb i n = true) (hk : ix i = k) (hb : isB v = true) (hp : pc + 1 = pc') (kk : C x w Q nL pc' L rest (sI M a (k) v) f) : C x w Q nL pc L (.int v :: .int i :: .ref a :: rest) M f := by
  subst hp
  subst hk
  intro t ht H locs ls hH hS hl
  obtain ⟨q0, hq⟩ := wcl_get (M := M) ha.1
  have hq' := hq
  rw [ha.bools] at hq'
  refine va_zast hx.1 rfl hx.2.2.2.1.2.1 hH.1 hH.2.1 hS q0 2 hq' rfl (inb_in hi) hdg (fun H1 locs1 hP1 hD1 hS1 => ?_)
  rw [isB_vp hb, wcl_set (M' := sI M a (ix i) v) hH.2.1 ha.1 hq (cE_sI w M a _ v) (by rw [ha.bools, sI_self, ← upd_up])] at hP1 hD1
  exact kk t ht H1 locs1 ls ⟨hP1, hD1, hH.2.2.I (fun _ => rfl)⟩ hS1 hl
theorem r_zast {k a n : Nat} {i v : Int32} {f : Mem → Option τ} {pc' : Nat} (hx : Ok own nL ret fr lo w x) (hdg : decode (xc x).code pc = .ok (.bastore, 1)) (ha : Wat w a 22 n) (hi : inb i n = true) (hk : ix i = k) (hb : isB v = true) (hp : pc + 1 = pc') (kk : ∀ M', C x w Q nL pc' L rest M' (f M')) : C x w Q nL pc L (.int v :: .int i :: .ref a :: rest) M (nm (sI M a (k) v) f) := by
  subst hp
  exact r_zastE hx hdg ha hi hk hb rfl (kk _)
theorem r_aald {k a kd n c off st ek en : Nat} {ty : FieldType} {i : Int32} {pc' : Nat} (hx : Ok own nL ret fr lo w x) (hdg : decode (xc x).code pc = .ok (.aaload, 1)) (ha : Wat w a kd n) (haf : afn kd = some (c, off, st, ek, en)) (hty : (wtys w)[c]? = some (wAy w c, ty)) (hrt : ty.isReference = true) (hi : inb i n = true) (hk : ix i = k) (hp : pc + 1 = pc') (kk : C x w Q nL pc' L (.ref (a + off + st * k) :: rest) M f) : C x w Q nL pc L (.int i :: .ref a :: rest) M f := by
  subst hp
  subst hk
  intro t ht H locs ls hH hS hl
  obtain ⟨q0, hq⟩ := wcl_get (M := M) ha.1
  rw [ha.aff haf] at hq
  have hin := inb_in hi
  have hlt : i.toNatClampNeg < n := Nat.not_le.mp fun q => hin (Or.inr q)
  exact W.aald (v := .ref (a + off + st * ix i)) (ty := ty) hx.1 rfl (hH.1 q0 _ hq) ((hx.2.2.2.1.2.1.2 c _ hty).1 n (fun j => va_rf (some (a + off + st * j)))) hrt (fun q => by cases q) (by show ¬ (i < 0 ∨ (arrV _ _ _).slots.size ≤ _); rw [arrV_size]; exact hin) (by show (arrV _ _ _).slots[_]? = _; rw [arrV_read _ _ hlt]; rfl) rfl rfl hdg (kk t ht H locs ls hH hS hl)
theorem r_aaldT {k a n : Nat} {i : Int32} {pc' : Nat} (hx : Ok own nL ret fr lo w x) (hdg : decode (xc x).code pc = .ok (.aaload, 1)) (ha : Wat w a 36 n) (hi : inb i n = true) (hk : ix i = k) (hp : pc + 1 = pc') (kk : WT w M → C x w Q nL pc' L (va_rf (mR M a (k)) :: rest) M f) : C x w Q nL pc L (.int i :: .ref a :: rest) M f := by
  subst hp
  subst hk
  intro t ht H locs ls hH hS hl
  obtain ⟨q0, hq⟩ := wcl_get (M := M) ha.1
  rw [ha.txa] at hq
  exact va_aldq hx.1 rfl hx.2.2.2.1.2.1 hH.1 q0 7 hq rfl (inb_in hi) hdg (kk hH.2.2 t ht H locs ls hH hS hl)
theorem r_aastTE {k a n : Nat} {i : Int32} {v : Option Nat} {f : Option τ} {pc' : Nat} (hx : Ok own nL ret fr lo w x) (hdg : decode (xc x).code pc = .ok (.aastore, 1)) (ha : Wat w a 36 n) (hi : inb i n = true) (hk : ix i = k) (hv : ∀ b, v = some b → Wat w b 9 0) (hp : pc + 1 = pc') (kk : C x w Q nL pc' L rest (sR M a (k) v) f) : C x w Q nL pc L (va_rf v :: .int i :: .ref a :: rest) M f := by
  subst hp
  subst hk
  intro t ht H locs ls hH hS hl
  obtain ⟨q0, hq⟩ := wcl_get (M := M) ha.1
  have hq' := hq
  rw [ha.txa] at hq'
  have hT : WT w (sR M a (ix i) v) := hH.2.2.R ha (fun kd' b hm hb => by
    have : kd' = 9 := by
      have e : mtk 36 (ix i) = some 9 := rfl
      rw [e] at hm; cases hm; rfl
    subst this; exact hv b hb)
  cases v with
  | none =>
    refine va_astqN hx.1 rfl hx.2.2.2.1.2.1 hH.1 hH.2.1 hS q0 7 hq' rfl (inb_in hi) hdg (fun H1 locs1 hP1 hD1 hS1 => ?_)
    rw [wcl_set (M' := sR M a (ix i) none) hH.2.1 ha.1 hq (cE_sR w M a _ none) (by rw [ha.txa, sR_self])] at hP1 hD1
    exact kk t ht H1 locs1 ls ⟨hP1, hD1, hT⟩ hS1 hl
  | some b =>
    have hb := hv b rfl
    obtain ⟨qk, hqk⟩ := wcl_get (M := M) hb.1
    rw [hb.obj (by decide)] at hqk
    refine va_astq (r := ("CribbageRoom$Text", TX9, 5)) hx.1 rfl hx.2.2.2.1.2.1 hH.1 hH.2.1 hS q0 7 qk 9 hq' rfl hqk rfl (inb_in hi) hdg (fun H1 locs1 hP1 hD1 hS1 => ?_)
    rw [wcl_set (M' := sR M a (ix i) (some b)) hH.2.1 ha.1 hq (cE_sR w M a _ (some b)) (by rw [ha.txa, sR_self])] at hP1 hD1
    exact kk t ht H1 locs1 ls ⟨hP1, hD1, hT⟩ hS1 hl
theorem r_aastT {k a n : Nat} {i : Int32} {v : Option Nat} {f : Mem → Option τ} {pc' : Nat} (hx : Ok own nL ret fr lo w x) (hdg : decode (xc x).code pc = .ok (.aastore, 1)) (ha : Wat w a 36 n) (hi : inb i n = true) (hk : ix i = k) (hv : ∀ b, v = some b → Wat w b 9 0) (hp : pc + 1 = pc') (kk : ∀ M', C x w Q nL pc' L rest M' (f M')) : C x w Q nL pc L (va_rf v :: .int i :: .ref a :: rest) M (nm (sR M a (k) v) f) := by
  subst hp
  exact r_aastTE hx hdg ha hi hk hv rfl (kk _)
theorem r_alen {a n : Nat} {v : Int32} {pc' : Nat} (hx : Ok own nL ret fr lo w x) (hdg : decode (xc x).code pc = .ok (.arraylength, 1)) (ha : Wat w a 20 n) (hv : Int32.ofNat n = v) (hp : pc + 1 = pc') (kk : C x w Q nL pc' L (.int v :: rest) M f) : C x w Q nL pc L (.ref a :: rest) M f := by
  subst hp
  intro t ht H locs ls hH hS hl
  obtain ⟨q0, hq⟩ := wcl_get (M := M) ha.1
  rw [ha.ints] at hq
  exact va_alen hx.1 rfl hx.2.2.2.1.2.1 hH.1 q0 0 hq rfl hv hdg (kk t ht H locs ls hH hS hl)
theorem r_alenJ {a n : Nat} {v : Int32} {pc' : Nat} (hx : Ok own nL ret fr lo w x) (hdg : decode (xc x).code pc = .ok (.arraylength, 1)) (ha : Wat w a 21 n) (hv : Int32.ofNat n = v) (hp : pc + 1 = pc') (kk : C x w Q nL pc' L (.int v :: rest) M f) : C x w Q nL pc L (.ref a :: rest) M f := by
  subst hp
  intro t ht H locs ls hH hS hl
  obtain ⟨q0, hq⟩ := wcl_get (M := M) ha.1
  rw [ha.longs] at hq
  exact va_alen hx.1 rfl hx.2.2.2.1.2.1 hH.1 q0 1 hq rfl hv hdg (kk t ht H locs ls hH hS hl)
theorem r_alenD {a n : Nat} {pc' : Nat} (hx : Ok own nL ret fr lo w x) (hdg : decode (xc x).code pc = .ok (.arraylength, 1)) (ha : Wat w a 23 n) (hp : pc + 1 = pc') (kk : C x w Q nL pc' L (.int (Int32.ofNat (mN M a)) :: rest) M f) : C x w Q nL pc L (.ref a :: rest) M f := by
  subst hp
  intro t ht H locs ls hH hS hl
  obtain ⟨q0, hq⟩ := wcl_get (M := M) ha.1
  rw [ha.dyn] at hq
  exact va_alen hx.1 rfl hx.2.2.2.1.2.1 hH.1 q0 0 hq rfl rfl hdg (kk t ht H locs ls hH hS hl)
theorem r_alenA {a kd n c off st ek en : Nat} {ty : FieldType} {v : Int32} {pc' : Nat} (hx : Ok own nL ret fr lo w x) (hdg : decode (xc x).code pc = .ok (.arraylength, 1)) (ha : Wat w a kd n) (haf : afn kd = some (c, off, st, ek, en)) (hty : (wtys w)[c]? = some (wAy w c, ty)) (hv : Int32.ofNat n = v) (hp : pc + 1 = pc') (kk : C x w Q nL pc' L (.int v :: rest) M f) : C x w Q nL pc L (.ref a :: rest) M f := by
  subst hp
  intro t ht H locs ls hH hS hl
  obtain ⟨q0, hq⟩ := wcl_get (M := M) ha.1
  rw [ha.aff haf] at hq
  exact va_alen hx.1 rfl hx.2.2.2.1.2.1 hH.1 q0 c hq hty hv hdg (kk t ht H locs ls hH hS hl)
theorem r_gets {i idx : Nat} {q : String × String × List Int32} {pc' : Nat} (hx : Ok own nL ret fr lo w x) (hdg : decode (xc x).code pc = .ok (.getstatic idx, 3)) (hq : stl[i]? = some q) (hlk : Cond.fieldLink own idx q.1 q.2.1 "[I" ∈ UW) (hp : pc + 3 = pc') (kk : C x w Q nL pc' L (.ref (wsa w i) :: rest) M f) : C x w Q nL pc L rest M f := by
  subst hp
  intro t ht H locs ls hH hS hl
  exact va_gets hx.1 rfl (hx.2.2.2.1.2.2.1 i q hq).1 hS hx.2.1 (hx.2.2.1 _ hlk) (fun _ h => h) hdg (kk t ht H locs ls hH hS hl)
theorem r_sald {i k : Nat} {v : Int32} {j : Int32} {q : String × String × List Int32} {pc' : Nat} (hx : Ok own nL ret fr lo w x) (hdg : decode (xc x).code pc = .ok (.iaload, 1)) (hq : stl[i]? = some q) (hi : inb j q.2.2.length = true) (hk : ix j = k) (hv : q.2.2.getD k 0 = v) (hp : pc + 1 = pc') (kk : C x w Q nL pc' L (.int v :: rest) M f) : C x w Q nL pc L (.int j :: .ref (wsa w i) :: rest) M f := by
  subst hp
  subst hk hv
  intro t ht H locs ls hH hS hl
  exact va_ti hx.1 rfl (hx.2.2.2.1.2.2.1 i q hq).2 hS (inb_in hi) rfl hdg (kk t ht H locs ls hH hS hl)
theorem r_slen {i : Nat} {v : Int32} {q : String × String × List Int32} {pc' : Nat} (hx : Ok own nL ret fr lo w x) (hdg : decode (xc x).code pc = .ok (.arraylength, 1)) (hq : stl[i]? = some q) (hv : Int32.ofNat q.2.2.length = v) (hp : pc + 1 = pc') (kk : C x w Q nL pc' L (.int v :: rest) M f) : C x w Q nL pc L (.ref (wsa w i) :: rest) M f := by
  subst hp
  intro t ht H locs ls hH hS hl
  exact va_tlen hx.1 rfl (hx.2.2.2.1.2.2.1 i q hq).2 hS hv hdg (kk t ht H locs ls hH hS hl)
theorem r_ldc {idx : Nat} {v : Int32} {pc' : Nat} (hx : Ok own nL ret fr lo w x) (hdg : decode (xc x).code pc = .ok (.ldc idx, 2)) (hk : Cond.constant own idx v ∈ UW) (hp : pc + 2 = pc') (kk : C x w Q nL pc' L (.int v :: rest) M f) : C x w Q nL pc L rest M f := by
  subst hp
  exact fun t ht H locs ls hH hS hl => lv_ldc hx.1 rfl hx.2.1 (hx.2.2.1 _ hk) hdg (kk t ht H locs ls hH hS hl)
theorem r_ldcw {idx : Nat} {v : Int32} {pc' : Nat} (hx : Ok own nL ret fr lo w x) (hdg : decode (xc x).code pc = .ok (.ldc_w idx, 3)) (hk : Cond.constant own idx v ∈ UW) (hp : pc + 3 = pc') (kk : C x w Q nL pc' L (.int v :: rest) M f) : C x w Q nL pc L rest M f := by
  subst hp
  exact fun t ht H locs ls hH hS hl => lv_ldcw hx.1 rfl hx.2.1 (hx.2.2.1 _ hk) hdg (kk t ht H locs ls hH hS hl)
theorem r_ldc2 {idx : Nat} {v : Int64} {pc' : Nat} (hx : Ok own nL ret fr lo w x) (hdg : decode (xc x).code pc = .ok (.ldc2_w idx, 3)) (hk : Cond.constantLong own idx v ∈ UW) (hp : pc + 3 = pc') (kk : C x w Q nL pc' L (.long v :: rest) M f) : C x w Q nL pc L rest M f := by
  subst hp
  exact fun t ht H locs ls hH hS hl => lv_ldc2 hx.1 rfl hx.2.1 (hx.2.2.1 _ hk) hdg (kk t ht H locs ls hH hS hl)
theorem r_null {pc' : Nat} (hx : Ok own nL ret fr lo w x) (hdg : decode (xc x).code pc = .ok (.aconst_null, 1)) (hp : pc + 1 = pc') (kk : C x w Q nL pc' L (va_rf none :: rest) M f) : C x w Q nL pc L rest M f := by
  subst hp
  exact fun t ht H locs ls hH hS hl => lv_null hx.1 rfl hdg (kk t ht H locs ls hH hS hl)
theorem r_ifnull {r : Option Nat} {off : Int} {tgt : Nat} {g : Option τ} {pc' : Nat} (hx : Ok own nL ret fr lo w x) (hdg : decode (xc x).code pc = .ok (.ifnull off, 3)) (ht : (pc : Int) + off = (tgt : Int)) (kt : r = none → C x w Q nL tgt L rest M f) (hp : pc + 3 = pc') (kf : ∀ b, r = some b → C x w Q nL pc' L rest M g) : C x w Q nL pc L (va_rf r :: rest) M (if r = none then f else g) := by
  subst hp
  intro t h H locs ls hH hS hl
  cases r with
  | none => exact lv_ifnullN hx.1 rfl hdg ht (kt rfl t (by simpa using h) H locs ls hH hS hl)
  | some b => exact lv_ifnull hx.1 rfl hdg (kf b rfl t (by simpa using h) H locs ls hH hS hl)
theorem r_ifnonnull {r : Option Nat} {off : Int} {tgt : Nat} {g : Option τ} {pc' : Nat} (hx : Ok own nL ret fr lo w x) (hdg : decode (xc x).code pc = .ok (.ifnonnull off, 3)) (ht : (pc : Int) + off = (tgt : Int)) (hp : pc + 3 = pc') (kf : r = none → C x w Q nL pc' L rest M f) (kt : ∀ b, r = some b → C x w Q nL tgt L rest M g) : C x w Q nL pc L (va_rf r :: rest) M (if r = none then f else g) := by
  subst hp
  intro t h H locs ls hH hS hl
  cases r with
  | none => exact lv_ifnonnullN hx.1 rfl hdg (kf rfl t (by simpa using h) H locs ls hH hS hl)
  | some b => exact lv_ifnonnull hx.1 rfl hdg ht (kt b rfl t (by simpa using h) H locs ls hH hS hl)
theorem r_acmp_ne {r1 r2 : Option Nat} {off : Int} {tgt : Nat} {g : Option τ} {pc' : Nat} (hx : Ok own nL ret fr lo w x) (hdg : decode (xc x).code pc = .ok (.if_acmp .ne off, 3)) (ht : (pc : Int) + off = (tgt : Int)) (kt : ¬ r1 = r2 → C x w Q nL tgt L rest M f) (hp : pc + 3 = pc') (kf : r1 = r2 → C x w Q nL pc' L rest M g) : C x w Q nL pc L (va_rf r2 :: va_rf r1 :: rest) M (if r1 = r2 then g else f) := by
  subst hp
  intro t h H locs ls hH hS hl
  rcases r_if h with ⟨a, b⟩ | ⟨a, b⟩
  · exact lv_acmp_ne hx.1 rfl hdg ht (fun q => absurd a q) (fun _ => kf a t b H locs ls hH hS hl)
  · exact lv_acmp_ne hx.1 rfl hdg ht (fun _ => kt a t b H locs ls hH hS hl) (fun q => absurd q a)
theorem sw_spec {x : Int} {d : Option τ} : ∀ (gs : List (Option τ)) (lo : Int), sw x lo gs d = if x < lo ∨ lo + gs.length ≤ x then d else gs.getD (x - lo).toNat d
  | [], lo => by
    unfold sw
    by_cases h : x < lo ∨ lo + (0 : Nat) ≤ x
    · rw [show ([] : List (Option τ)).length = 0 from rfl, if_pos h]
    · omega
  | g :: gs, lo => by
    unfold sw
    by_cases h : x = lo
    · subst h
      rw [if_pos rfl, if_neg (by simp only [List.length_cons]; omega)]
      simp
    · rw [if_neg h, sw_spec gs (lo + 1)]
      by_cases h1 : x < lo
      · rw [if_pos (Or.inl (by omega)), if_pos (Or.inl h1)]
      · by_cases h2 : lo + 1 + gs.length ≤ x
        · rw [if_pos (Or.inr h2), if_pos (Or.inr (by simp only [List.length_cons]; omega))]
        · rw [if_neg (by omega), if_neg (by simp only [List.length_cons]; omega)]
          have : (x - lo).toNat = (x - (lo + 1)).toNat + 1 := by omega
          rw [this]; rfl
def swAll {α β : Type} (P : α → β → Prop) : List α → List β → Prop
  | a :: as, b :: bs => P a b ∧ swAll P as bs
  | _, _ => True
theorem swAll_at {α β : Type} {P : α → β → Prop} : ∀ {as : List α} {bs : List β}, swAll P as bs → ∀ (k : Nat) (a : α) (b : β), as[k]? = some a → bs[k]? = some b → P a b
  | [], _, _, k, a, b, h1, _ => by simp at h1
  | _ :: _, [], _, k, a, b, _, h2 => by simp at h2
  | a0 :: as, b0 :: bs, h, 0, a, b, h1, h2 => by
    cases h1; cases h2; exact h.1
  | a0 :: as, b0 :: bs, h, k + 1, a, b, h1, h2 => swAll_at h.2 k a b (by simpa using h1) (by simpa using h2)
theorem r_table {x1 : Int32} {dflt lo1 hi : Int} {offs : Array Int} {len td : Nat} {gs : List (Option τ)} {d : Option τ} (tgts : List Nat) (hx : Ok own nL ret fr lo w x) (hdg : decode (xc x).code pc = .ok (.tableswitch dflt lo1 hi offs, len)) (hlen : hi + 1 = lo1 + tgts.length) (hgl : gs.length = tgts.length) (ho : tgts.map (fun t : Nat => (t : Int)) = offs.toList.map (fun o => (pc : Int) + o)) (htd : (pc : Int) + dflt = (td : Int)) (kd : C x w Q nL td L rest M d) (ks : swAll (fun t g => C x w Q nL t L rest M g) tgts gs) : C x w Q nL pc L (.int x1 :: rest) M (sw x1.toInt lo1 gs d) := by
  intro t h H locs ls hH hS hl
  rw [sw_spec] at h
  rcases r_if h with ⟨a, b⟩ | ⟨a, b⟩
  · exact lv_tableOut hx.1 rfl hdg (by omega) htd (kd t b H locs ls hH hS hl)
  · have hk : (x1.toInt - lo1).toNat < tgts.length := by omega
    generalize hkk : (x1.toInt - lo1).toNat = k at b hk
    have e1 : tgts[k]? = some tgts[k] := List.getElem?_eq_getElem hk
    have hk2 : k < gs.length := by omega
    have e2 : gs[k]? = some gs[k] := List.getElem?_eq_getElem hk2
    have e3 : (offs.toList.map (fun o => (pc : Int) + o))[k]? = some ((tgts[k] : Nat) : Int) := by rw [← ho, List.getElem?_map, e1]; rfl
    rw [List.getElem?_map] at e3
    cases e4 : offs.toList[k]? with
    | none => rw [e4] at e3; cases e3
    | some off =>
      rw [e4] at e3
      rw [List.getD_eq_getElem?_getD, e2] at b
      exact lv_tableIn hx.1 rfl hdg (off := off) (tgt := tgts[k]) (by omega) (by omega) (by rw [hkk, ← Array.getElem?_toList]; exact e4) (by simpa using e3) (swAll_at ks k _ _ e1 e2 t b H locs ls hH hS hl)
def lswOk {τ : Type} (pc : Int) : List (Int × Int) → List Nat → List (Int × Option τ) → Prop
  | p :: ps, t :: ts, g :: gs => (p.1 = g.1 ∧ pc + p.2 = (t : Int)) ∧ lswOk pc ps ts gs
  | [], [], [] => True
  | _, _, _ => False
theorem lsw_spec (P : Nat → Option τ → Prop) {pc dflt x : Int} {td : Nat} {d : Option τ} (htd : pc + dflt = (td : Int)) (hd : P td d) : ∀ (ps : List (Int × Int)) (ts : List Nat) (gs : List (Int × Option τ)), lswOk pc ps ts gs → swAll (fun t g => P t g.2) ts gs → ∃ tgt : Nat, pc + Op.lookupswitch.offset ps dflt x = (tgt : Int) ∧ P tgt (lsw x gs d)
  | [], [], [], _, _ => ⟨td, htd, hd⟩
  | p :: ps, t :: ts, g :: gs, h, hs => by
    obtain ⟨⟨h1, h2⟩, h3⟩ := h
    by_cases hx : x = g.1
    · refine ⟨t, ?_, ?_⟩
      · obtain ⟨a, o⟩ := p
        rw [Op.lookupswitch.offset_cons, if_pos (by rw [hx]; exact h1)]
        exact h2
      · unfold lsw
        rw [if_pos hx]
        exact hs.1
    · obtain ⟨tgt, e1, e2⟩ := lsw_spec P htd hd ps ts gs h3 hs.2
      refine ⟨tgt, ?_, ?_⟩
      · obtain ⟨a, o⟩ := p
        rw [Op.lookupswitch.offset_cons, if_neg (fun q => hx (by rw [← q]; exact h1))]
        exact e1
      · unfold lsw
        rw [if_neg hx]
        exact e2
  | [], _ :: _, _, h, _ => h.elim
  | [], [], _ :: _, h, _ => h.elim
  | _ :: _, [], _, h, _ => h.elim
  | _ :: _, _ :: _, [], h, _ => h.elim
theorem r_lookup {x1 : Int32} {dflt : Int} {ps : Array (Int × Int)} {len td : Nat} {gs : List (Int × Option τ)} {d : Option τ} (tgts : List Nat) (hx : Ok own nL ret fr lo w x) (hdg : decode (xc x).code pc = .ok (.lookupswitch dflt ps, len)) (hinc : (ps.toList.zip (ps.toList.drop 1)).all (fun (a, next) => a.1 < next.1) = true) (hok : lswOk (pc : Int) ps.toList tgts gs) (htd : (pc : Int) + dflt = (td : Int)) (kd : C x w Q nL td L rest M d) (ks : swAll (fun t g => C x w Q nL t L rest M g.2) tgts gs) : C x w Q nL pc L (.int x1 :: rest) M (lsw x1.toInt gs d) := by
  obtain ⟨tgt, e1, e2⟩ := lsw_spec (fun t g => C x w Q nL t L rest M g) (x := x1.toInt) htd kd ps.toList tgts gs hok ks
  intro t h H locs ls hH hS hl
  exact lv_lookup hx.1 rfl hdg hinc rfl e1 (e2 t h H locs ls hH hS hl)
theorem r_lcmp_eq {x1 y1 : Int64} {off : Int} {tgt : Nat} {g : Option τ} {pc' : Nat} (hx : Ok own nL ret fr lo w x) (hd0 : decode (xc x).code pc = .ok (.lcmp, 1)) (hdg : decode (xc x).code (pc + 1) = .ok (.ifCond .eq off, 3)) (ht : ((pc + 1 : Nat) : Int) + off = (tgt : Int)) (kt : x1 = y1 → C x w Q nL tgt L rest M f) (hp : pc + 1 + 3 = pc') (kf : ¬ (x1 = y1) → C x w Q nL pc' L rest M g) : C x w Q nL pc L (.long y1 :: .long x1 :: rest) M (if x1 = y1 then f else g) := by
  subst hp
  intro t h H locs ls hH hS hl
  have hi : (lg_cmp x1 y1 = 0) ↔ (x1 = y1) := lg_cmp_eq x1 y1
  refine W.lcmp hx.1 rfl hd0 ?_
  rcases r_if h with ⟨a, b⟩ | ⟨a, b⟩
  · exact lv_if_eq hx.1 rfl hdg ht (fun _ => kt a t b H locs ls hH hS hl) (fun q => absurd (hi.mpr a) q)
  · exact lv_if_eq hx.1 rfl hdg ht (fun q => absurd (hi.mp q) a) (fun _ => kf a t b H locs ls hH hS hl)
theorem r_lcmp_ne {x1 y1 : Int64} {off : Int} {tgt : Nat} {g : Option τ} {pc' : Nat} (hx : Ok own nL ret fr lo w x) (hd0 : decode (xc x).code pc = .ok (.lcmp, 1)) (hdg : decode (xc x).code (pc + 1) = .ok (.ifCond .ne off, 3)) (ht : ((pc + 1 : Nat) : Int) + off = (tgt : Int)) (kt : ¬ x1 = y1 → C x w Q nL tgt L rest M f) (hp : pc + 1 + 3 = pc') (kf : ¬ (¬ x1 = y1) → C x w Q nL pc' L rest M g) : C x w Q nL pc L (.long y1 :: .long x1 :: rest) M (if ¬ x1 = y1 then f else g) := by
  subst hp
  intro t h H locs ls hH hS hl
  have hi : (lg_cmp x1 y1 = 0) ↔ (x1 = y1) := lg_cmp_eq x1 y1
  refine W.lcmp hx.1 rfl hd0 ?_
  rcases r_if h with ⟨a, b⟩ | ⟨a, b⟩
  · exact lv_if_ne hx.1 rfl hdg ht (fun _ => kt a t b H locs ls hH hS hl) (fun q => absurd (hi.mp q) a)
  · exact lv_if_ne hx.1 rfl hdg ht (fun q => absurd (hi.mp (Classical.byContradiction fun z => q (by first | exact absurd (hi.mpr (Classical.byContradiction a)) z | exact z))) (by exact fun z => q (hi.mpr z))) (fun _ => kf a t b H locs ls hH hS hl)
theorem r_lcmp_lt {x1 y1 : Int64} {off : Int} {tgt : Nat} {g : Option τ} {pc' : Nat} (hx : Ok own nL ret fr lo w x) (hd0 : decode (xc x).code pc = .ok (.lcmp, 1)) (hdg : decode (xc x).code (pc + 1) = .ok (.ifCond .lt off, 3)) (ht : ((pc + 1 : Nat) : Int) + off = (tgt : Int)) (kt : x1 < y1 → C x w Q nL tgt L rest M f) (hp : pc + 1 + 3 = pc') (kf : ¬ (x1 < y1) → C x w Q nL pc' L rest M g) : C x w Q nL pc L (.long y1 :: .long x1 :: rest) M (if x1 < y1 then f else g) := by
  subst hp
  intro t h H locs ls hH hS hl
  have hi : (lg_cmp x1 y1 < 0) ↔ (x1 < y1) := lg_cmp_lt x1 y1
  refine W.lcmp hx.1 rfl hd0 ?_
  rcases r_if h with ⟨a, b⟩ | ⟨a, b⟩
  · exact lv_if_lt hx.1 rfl hdg ht (fun _ => kt a t b H locs ls hH hS hl) (fun q => absurd (hi.mpr a) q)
  · exact lv_if_lt hx.1 rfl hdg ht (fun q => absurd (hi.mp q) a) (fun _ => kf a t b H locs ls hH hS hl)
theorem r_lcmp_ge {x1 y1 : Int64} {off : Int} {tgt : Nat} {g : Option τ} {pc' : Nat} (hx : Ok own nL ret fr lo w x) (hd0 : decode (xc x).code pc = .ok (.lcmp, 1)) (hdg : decode (xc x).code (pc + 1) = .ok (.ifCond .ge off, 3)) (ht : ((pc + 1 : Nat) : Int) + off = (tgt : Int)) (kt : y1 ≤ x1 → C x w Q nL tgt L rest M f) (hp : pc + 1 + 3 = pc') (kf : ¬ (y1 ≤ x1) → C x w Q nL pc' L rest M g) : C x w Q nL pc L (.long y1 :: .long x1 :: rest) M (if y1 ≤ x1 then f else g) := by
  subst hp
  intro t h H locs ls hH hS hl
  have hi : (0 ≤ lg_cmp x1 y1) ↔ (y1 ≤ x1) := lg_cmp_ge x1 y1
  refine W.lcmp hx.1 rfl hd0 ?_
  rcases r_if h with ⟨a, b⟩ | ⟨a, b⟩
  · exact lv_if_ge hx.1 rfl hdg ht (fun _ => kt a t b H locs ls hH hS hl) (fun q => absurd (hi.mpr a) q)
  · exact lv_if_ge hx.1 rfl hdg ht (fun q => absurd (hi.mp q) a) (fun _ => kf a t b H locs ls hH hS hl)
theorem r_lcmp_gt {x1 y1 : Int64} {off : Int} {tgt : Nat} {g : Option τ} {pc' : Nat} (hx : Ok own nL ret fr lo w x) (hd0 : decode (xc x).code pc = .ok (.lcmp, 1)) (hdg : decode (xc x).code (pc + 1) = .ok (.ifCond .gt off, 3)) (ht : ((pc + 1 : Nat) : Int) + off = (tgt : Int)) (kt : y1 < x1 → C x w Q nL tgt L rest M f) (hp : pc + 1 + 3 = pc') (kf : ¬ (y1 < x1) → C x w Q nL pc' L rest M g) : C x w Q nL pc L (.long y1 :: .long x1 :: rest) M (if y1 < x1 then f else g) := by
  subst hp
  intro t h H locs ls hH hS hl
  have hi : (0 < lg_cmp x1 y1) ↔ (y1 < x1) := lg_cmp_gt x1 y1
  refine W.lcmp hx.1 rfl hd0 ?_
  rcases r_if h with ⟨a, b⟩ | ⟨a, b⟩
  · exact lv_if_gt hx.1 rfl hdg ht (fun _ => kt a t b H locs ls hH hS hl) (fun q => absurd (hi.mpr a) q)
  · exact lv_if_gt hx.1 rfl hdg ht (fun q => absurd (hi.mp q) a) (fun _ => kf a t b H locs ls hH hS hl)
theorem r_lcmp_le {x1 y1 : Int64} {off : Int} {tgt : Nat} {g : Option τ} {pc' : Nat} (hx : Ok own nL ret fr lo w x) (hd0 : decode (xc x).code pc = .ok (.lcmp, 1)) (hdg : decode (xc x).code (pc + 1) = .ok (.ifCond .le off, 3)) (ht : ((pc + 1 : Nat) : Int) + off = (tgt : Int)) (kt : x1 ≤ y1 → C x w Q nL tgt L rest M f) (hp : pc + 1 + 3 = pc') (kf : ¬ (x1 ≤ y1) → C x w Q nL pc' L rest M g) : C x w Q nL pc L (.long y1 :: .long x1 :: rest) M (if x1 ≤ y1 then f else g) := by
  subst hp
  intro t h H locs ls hH hS hl
  have hi : (lg_cmp x1 y1 ≤ 0) ↔ (x1 ≤ y1) := lg_cmp_le x1 y1
  refine W.lcmp hx.1 rfl hd0 ?_
  rcases r_if h with ⟨a, b⟩ | ⟨a, b⟩
  · exact lv_if_le hx.1 rfl hdg ht (fun _ => kt a t b H locs ls hH hS hl) (fun q => absurd (hi.mpr a) q)
  · exact lv_if_le hx.1 rfl hdg ht (fun q => absurd (hi.mp q) a) (fun _ => kf a t b H locs ls hH hS hl)
theorem aI_self (M : Mem) (a : Nat) (g : Nat → Int32) : mI (aI M a g) a = g := va_up_self _ _ _
theorem aJ_self (M : Mem) (a : Nat) (g : Nat → Int64) : mJ (aJ M a g) a = g := va_up_self _ _ _
theorem r_copyiE {a b n0 n1 s0 d0 k idx : Nat} {sp dp n : Int32} {f : Option τ} {pc' : Nat} (hx : Ok own nL ret fr lo w x) (hdg : decode (xc x).code pc = .ok (.invokestatic idx, 3)) (hlk : Cond.methodLink own idx arraycopyName ∈ UW) (hnat : Cond.native arraycopyName ∈ UW) (hst : Cond.static arraycopyName ∈ UW) (hini : Cond.initialized "java/lang/System" ∈ UW) (ha : Wat w a 20 n0) (hb : Wat w b 20 n1) (hs : ix sp = s0 ∧ ¬ sp < 0) (hd : ix dp = d0 ∧ ¬ dp < 0) (hk : ix n = k ∧ ¬ n < 0) (h4 : s0 + k ≤ n0) (h5 : d0 + k ≤ n1) (hR : 1 ≤ fr ∧ (rest.map fun v => v.category).sum + (nativeFrameWords "java/lang/System" "arraycopy" 5 + 11) ≤ lo) (hp : pc + 3 = pc') (kk : C x w Q nL pc' L rest (aI M b (va_cpy (mI M a) (mI M b) s0 d0 k)) f) : C x w Q nL pc L (.int n :: .int dp :: .ref b :: .int sp :: .ref a :: rest) M f := by
  subst hp
  intro t ht H locs ls hH hS hl
  obtain ⟨q0, hq0⟩ := wcl_get (M := M) ha.1
  obtain ⟨q1, hq1⟩ := wcl_get (M := M) hb.1
  have hq1' := hq1
  rw [ha.ints] at hq0
  rw [hb.ints] at hq1'
  obtain ⟨rfl, hs⟩ := hs
  obtain ⟨rfl, hd⟩ := hd
  obtain ⟨rfl, hk⟩ := hk
  have hU := hx.2.2.1
  refine va_copyi hx.1 rfl (hx.2.2.2.2.2.2.2.trans hl.1.symm) hx.2.1 (hU _ hlk) (hU _ hnat) (hU _ hst) (hU _ hini) hx.2.2.2.1.2.1 hH.1 hH.2.1 hS q0 q1 0 0 hq0 hq1' rfl rfl rfl hs hd hk h4 h5 (fun _ _ => rfl) (by rw [hx.2.2.2.2.2.2.1.1]; exact hR.1) (by rw [hx.2.2.2.2.2.2.1.2.1]; exact hR.2) hdg (fun H1 locs1 hP1 hD1 hS1 => ?_)
  rw [wcl_set (M' := aI M b (va_cpy (mI M a) (mI M b) (ix sp) (ix dp) (ix n))) hH.2.1 hb.1 hq1 (cE_aI w M b _) (by rw [hb.ints, aI_self])] at hP1 hD1
  exact kk t ht H1 locs1 ls ⟨hP1, hD1, hH.2.2.I (fun _ => rfl)⟩ hS1 hl
theorem r_copyi {a b n0 n1 s0 d0 k idx : Nat} {sp dp n : Int32} {f : Mem → Option τ} {pc' : Nat} (hx : Ok own nL ret fr lo w x) (hdg : decode (xc x).code pc = .ok (.invokestatic idx, 3)) (hlk : Cond.methodLink own idx arraycopyName ∈ UW) (hnat : Cond.native arraycopyName ∈ UW) (hst : Cond.static arraycopyName ∈ UW) (hini : Cond.initialized "java/lang/System" ∈ UW) (ha : Wat w a 20 n0) (hb : Wat w b 20 n1) (hs : ix sp = s0 ∧ ¬ sp < 0) (hd : ix dp = d0 ∧ ¬ dp < 0) (hk : ix n = k ∧ ¬ n < 0) (h4 : s0 + k ≤ n0) (h5 : d0 + k ≤ n1) (hR : 1 ≤ fr ∧ (rest.map fun v => v.category).sum + (nativeFrameWords "java/lang/System" "arraycopy" 5 + 11) ≤ lo) (hp : pc + 3 = pc') (kk : ∀ M', C x w Q nL pc' L rest M' (f M')) : C x w Q nL pc L (.int n :: .int dp :: .ref b :: .int sp :: .ref a :: rest) M (nm (aI M b (va_cpy (mI M a) (mI M b) s0 d0 k)) f) := by
  subst hp
  exact r_copyiE hx hdg hlk hnat hst hini ha hb hs hd hk h4 h5 hR rfl (kk _)
theorem r_copylE {a b n0 n1 s0 d0 k idx : Nat} {sp dp n : Int32} {f : Option τ} {pc' : Nat} (hx : Ok own nL ret fr lo w x) (hdg : decode (xc x).code pc = .ok (.invokestatic idx, 3)) (hlk : Cond.methodLink own idx arraycopyName ∈ UW) (hnat : Cond.native arraycopyName ∈ UW) (hst : Cond.static arraycopyName ∈ UW) (hini : Cond.initialized "java/lang/System" ∈ UW) (ha : Wat w a 21 n0) (hb : Wat w b 21 n1) (hs : ix sp = s0 ∧ ¬ sp < 0) (hd : ix dp = d0 ∧ ¬ dp < 0) (hk : ix n = k ∧ ¬ n < 0) (h4 : s0 + k ≤ n0) (h5 : d0 + k ≤ n1) (hR : 1 ≤ fr ∧ (rest.map fun v => v.category).sum + (nativeFrameWords "java/lang/System" "arraycopy" 5 + 11) ≤ lo) (hp : pc + 3 = pc') (kk : C x w Q nL pc' L rest (aJ M b (va_cpy (mJ M a) (mJ M b) s0 d0 k)) f) : C x w Q nL pc L (.int n :: .int dp :: .ref b :: .int sp :: .ref a :: rest) M f := by
  subst hp
  intro t ht H locs ls hH hS hl
  obtain ⟨q0, hq0⟩ := wcl_get (M := M) ha.1
  obtain ⟨q1, hq1⟩ := wcl_get (M := M) hb.1
  have hq1' := hq1
  rw [ha.longs] at hq0
  rw [hb.longs] at hq1'
  obtain ⟨rfl, hs⟩ := hs
  obtain ⟨rfl, hd⟩ := hd
  obtain ⟨rfl, hk⟩ := hk
  have hU := hx.2.2.1
  refine va_copyl hx.1 rfl (hx.2.2.2.2.2.2.2.trans hl.1.symm) hx.2.1 (hU _ hlk) (hU _ hnat) (hU _ hst) (hU _ hini) hx.2.2.2.1.2.1 hH.1 hH.2.1 hS q0 q1 1 1 hq0 hq1' rfl rfl rfl hs hd hk h4 h5 (fun _ _ => rfl) (by rw [hx.2.2.2.2.2.2.1.1]; exact hR.1) (by rw [hx.2.2.2.2.2.2.1.2.1]; exact hR.2) hdg (fun H1 locs1 hP1 hD1 hS1 => ?_)
  rw [wcl_set (M' := aJ M b (va_cpy (mJ M a) (mJ M b) (ix sp) (ix dp) (ix n))) hH.2.1 hb.1 hq1 (cE_aJ w M b _) (by rw [hb.longs, aJ_self])] at hP1 hD1
  exact kk t ht H1 locs1 ls ⟨hP1, hD1, hH.2.2.I (fun _ => rfl)⟩ hS1 hl
theorem r_copyl {a b n0 n1 s0 d0 k idx : Nat} {sp dp n : Int32} {f : Mem → Option τ} {pc' : Nat} (hx : Ok own nL ret fr lo w x) (hdg : decode (xc x).code pc = .ok (.invokestatic idx, 3)) (hlk : Cond.methodLink own idx arraycopyName ∈ UW) (hnat : Cond.native arraycopyName ∈ UW) (hst : Cond.static arraycopyName ∈ UW) (hini : Cond.initialized "java/lang/System" ∈ UW) (ha : Wat w a 21 n0) (hb : Wat w b 21 n1) (hs : ix sp = s0 ∧ ¬ sp < 0) (hd : ix dp = d0 ∧ ¬ dp < 0) (hk : ix n = k ∧ ¬ n < 0) (h4 : s0 + k ≤ n0) (h5 : d0 + k ≤ n1) (hR : 1 ≤ fr ∧ (rest.map fun v => v.category).sum + (nativeFrameWords "java/lang/System" "arraycopy" 5 + 11) ≤ lo) (hp : pc + 3 = pc') (kk : ∀ M', C x w Q nL pc' L rest M' (f M')) : C x w Q nL pc L (.int n :: .int dp :: .ref b :: .int sp :: .ref a :: rest) M (nm (aJ M b (va_cpy (mJ M a) (mJ M b) s0 d0 k)) f) := by
  subst hp
  exact r_copylE hx hdg hlk hnat hst hini ha hb hs hd hk h4 h5 hR rfl (kk _)
theorem r_iret {v : Int32} {t0 : τ} {ev : τ → Option Value} {em : τ → Mem} (hx : Ok own nL (some .int) fr lo w x) (hdg : decode (xc x).code pc = .ok (.ireturn, 1)) (he : ev t0 = some (.int v)) (hm : em t0 = M) (hz : xk x = 0 ∧ xn x = 0) : C x w (Qn x w ev em) nL pc L [.int v] M (some t0) := by
  intro t ht H locs ls hH hS hl
  cases ht
  rw [hz.1, hz.2]
  exact W.iret hx.1 rfl hx.2.2.2.2.1 (fun t ht hW => ⟨by rw [he], by rw [ht, hm]; exact hH, hS.F ht⟩) hS.2.2 hdg hx.2.2.2.2.2.1
theorem r_zret {v : Int32} {t0 : τ} {ev : τ → Option Value} {em : τ → Mem} (hx : Ok own nL (some .boolean) fr lo w x) (hdg : decode (xc x).code pc = .ok (.ireturn, 1)) (hb : isB v = true) (he : ev t0 = some (.int v)) (hm : em t0 = M) (hz : xk x = 0 ∧ xn x = 0) : C x w (Qn x w ev em) nL pc L [.int v] M (some t0) := by
  intro t ht H locs ls hH hS hl
  cases ht
  rw [hz.1, hz.2]
  exact W.zret hx.1 rfl hx.2.2.2.2.1 (isB_nar hb) (fun t ht hW => ⟨by rw [he], by rw [ht, hm]; exact hH, hS.F ht⟩) hS.2.2 hdg hx.2.2.2.2.2.1
theorem r_lret {v : Int64} {t0 : τ} {ev : τ → Option Value} {em : τ → Mem} (hx : Ok own nL (some .long) fr lo w x) (hdg : decode (xc x).code pc = .ok (.lreturn, 1)) (he : ev t0 = some (.long v)) (hm : em t0 = M) (hz : xk x = 0 ∧ xn x = 0) : C x w (Qn x w ev em) nL pc L [.long v] M (some t0) := by
  intro t ht H locs ls hH hS hl
  cases ht
  rw [hz.1, hz.2]
  exact W.lret hx.1 rfl hx.2.2.2.2.1 (fun t ht hW => ⟨by rw [he], by rw [ht, hm]; exact hH, hS.F ht⟩) hS.2.2 hdg hx.2.2.2.2.2.1
theorem r_vret {t0 : τ} {ev : τ → Option Value} {em : τ → Mem} (hx : Ok own nL none fr lo w x) (hdg : decode (xc x).code pc = .ok (.return_, 1)) (he : ev t0 = none) (hm : em t0 = M) (hz : xk x = 0 ∧ xn x = 0) : C x w (Qn x w ev em) nL pc L [] M (some t0) := by
  intro t ht H locs ls hH hS hl
  cases ht
  rw [hz.1, hz.2]
  exact W.vret hx.1 rfl hx.2.2.2.2.1 (fun t ht hW => ⟨by rw [he], by rw [ht, hm]; exact hH, hS.F ht⟩) hS.2.2 hdg hx.2.2.2.2.2.1
theorem r_aret {v : Option Nat} {t0 : τ} {ev : τ → Option Value} {em : τ → Mem} {n : String} (hx : Ok own nL (some (.object n)) fr lo w x) (hdg : decode (xc x).code pc = .ok (.areturn, 1)) (he : ev t0 = some (va_rf v)) (hm : em t0 = M) (hz : xk x = 0 ∧ xn x = 0) : C x w (Qn x w ev em) nL pc L [va_rf v] M (some t0) := by
  intro t ht H locs ls hH hS hl
  cases ht
  rw [hz.1, hz.2]
  exact W.aret hx.1 rfl hx.2.2.2.2.1 (Or.inl ⟨n, rfl⟩) (by cases v with | none => exact Or.inl rfl | some a => exact Or.inr ⟨a, rfl⟩) (fun t ht hW => ⟨by rw [he], by rw [ht, hm]; exact hH, hS.F ht⟩) hS.2.2 hdg hx.2.2.2.2.2.1
end RX
