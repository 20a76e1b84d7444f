/-! ===== a constructor's rows, its block told from its own start on ===== -/
theorem hol_congr {w : WX} {M M' : Mem} {H : Heap} (h : ∀ a ∈ wdom w, mI M' a = mI M a ∧ mJ M' a = mJ M a ∧ mR M' a = mR M a ∧ mN M' a = mN M a) (hH : Hol w M H) : Hol w M' H :=
  hol_seal rfl rfl rfl (fun a ha h9 => by show va_at _ _ (a, cEk w M' a _ _) _; rw [cEk_I (h a ha).1 (h a ha).2.1 (h a ha).2.2.1 (h a ha).2.2.2]; exact h9) (fun a kd n ha k kd' b hm hb => hH.2.2 a kd n ha k kd' b hm (by rw [← (h a ha.1).2.2.1]; exact hb)) hH
section RY
variable {τ : Type} {own : String} {nL fr lo : Nat} {ret : Option FieldType} {w w0 : WX} {x : MX} {Q : τ → State → Prop} {pc pc' : Nat} {L L' : List (Nat × Value)} {rest : List Value} {M U : Mem} {f : Option τ} {t S K N : Nat} {G G0 : List (Nat × Nat)}
theorem z_putI {ci n idx k : Nat} {v : Int32} {ty : FieldType} (hS : 0 < S) (hx : Ok own nL ret fr lo w x) (hdg : decode (xc x).code pc = .ok (.putfield idx, 3)) (hin : (xt x).name = "<init>") (hf : FW own idx ci k ty) (ha : Wat w t (40 + ci) n) (hk : fk ci k = 0) (hc : ci < 20) (hn : narrow ty (.int v) = .int v) (hfit : fits ty (.int v) = true) (hp : pc + 3 = pc') (kk : C x w Q nL pc' L rest (put M t S (sI U 0 k v)) f) : C x w Q nL pc L (.int v :: .ref t :: rest) (put M t S U) f := by
  subst hp
  exact q_putWI hx hdg hin hf ha hk hc hn hfit (by rw [sI_put0 hS]; exact kk)
theorem z_putR {ci n idx k z o : Nat} {ty : FieldType} (hS : 0 < S) (hx : Ok own nL ret fr lo w x) (hdg : decode (xc x).code pc = .ok (.putfield idx, 3)) (hin : (xt x).name = "<init>") (hf : FW own idx ci k ty) (ha : Wat w t (40 + ci) n) (hk : fk ci k = z + 2) (hc : ci < 20) (hn : narrow ty (.ref (t + o)) = .ref (t + o)) (hfit : fits ty (.ref (t + o)) = true) (hp : pc + 3 = pc') (kk : C x w Q nL pc' L rest (put M t S (sR U 0 k (some (t + o)))) f) : C x w Q nL pc L (.ref (t + o) :: .ref t :: rest) (put M t S U) f := by
  subst hp
  exact q_putWR hx hdg hin hf ha hk hc hn hfit (by rw [sR_put0 hS]; exact kk)
theorem z_getR {ci n idx k o z : Nat} (hS : 0 < S) (hx : Ok own nL ret fr lo w x) (hdg : decode (xc x).code pc = .ok (.getfield idx, 3)) (hf : FL own idx ci k) (ha : Wat w t (40 + ci) n) (hk : fk ci k = z + 2) (hv : mR U 0 k = some (t + o)) (hc : ci < 20) (hp : pc + 3 = pc') (kk : C x w Q nL pc' L (.ref (t + o) :: rest) (put M t S U) f) : C x w Q nL pc L (.ref t :: rest) (put M t S U) f := by
  subst hp
  refine q_getW hx hdg hf ha ?_ hc kk
  unfold fvr
  rw [hk]
  have := (put_at (M := M) (U := U) (t := t) (o := 0) hS).2.2.1
  rw [Nat.add_zero] at this
  show va_rf (mR (put M t S U) t k) = _
  rw [this, hv]; rfl
theorem z_iast {o n k : Nat} {i v : Int32} (hS : o < S) (hx : Ok own nL ret fr lo w x) (hdg : decode (xc x).code pc = .ok (.iastore, 1)) (ha : Wat w (t + o) 20 n) (hi : inb i n = true) (hk : ix i = k) (hp : pc + 1 = pc') (kk : C x w Q nL pc' L rest (put M t S (sI U o k v)) f) : C x w Q nL pc L (.int v :: .int i :: .ref (t + o) :: rest) (put M t S U) f := by
  subst hp
  exact r_iastE hx hdg ha hi hk rfl (by rw [sI_put hS]; exact kk)
theorem z_last {o n k : Nat} {i : Int32} {v : Int64} (hS : o < S) (hx : Ok own nL ret fr lo w x) (hdg : decode (xc x).code pc = .ok (.lastore, 1)) (ha : Wat w (t + o) 21 n) (hi : inb i n = true) (hk : ix i = k) (hp : pc + 1 = pc') (kk : C x w Q nL pc' L rest (put M t S (sJ U o k v)) f) : C x w Q nL pc L (.long v :: .int i :: .ref (t + o) :: rest) (put M t S U) f := by
  subst hp
  exact r_lastE hx hdg ha hi hk rfl (by rw [sJ_put hS]; exact kk)
theorem z_aast {o c n v k ci : Nat} {r : vw_C} {i : Int32} (hS : o < S) (hx : Ok own nL ret fr lo w x) (hdg : decode (xc x).code pc = .ok (.aastore, 1)) (ha : Wat w (t + o) (60 + c) n) (hi : inb i n = true) (hk : ix i = k) (hv : Wat w (t + v) ci 0) (hci : ci < 20) (hc : cls[ci]? = some r) (ht : (wtys w)[c]? = some (wAy w c, .object r.1)) (hp : pc + 1 = pc') (kk : C x w Q nL pc' L rest (put M t S (sR U o k (some (t + v)))) f) : C x w Q nL pc L (.ref (t + v) :: .int i :: .ref (t + o) :: rest) (put M t S U) f := by
  subst hp
  exact q_aastR hx hdg ha hi hk hv hci hc ht (by rw [sR_put hS]; exact kk)
theorem z_pre {o s : Nat} {U0 : Mem} {g : Nat × Nat} {st : List Value} (hb : Bel w t) (ho : G0.length = o) (hS : o + s ≤ S) (h1 : mI U o = mI U0 0) (h2 : mJ U o = mJ U0 0) (h3 : mR U o = mR U0 0) (h4 : mN U o = mN U0 0) (kk : C x (wg w t (G0 ++ [g])) Q nL pc L st (put (put M t S U) (t + o) s U0) f) : C x (wg w t (G0 ++ [g])) Q nL pc L st (put M t S U) f := by
  refine q_hol rfl (fun H hH => hol_congr (fun a ha => ?_) hH) kk
  by_cases e : a = t + o
  · subst e
    by_cases hs : 0 < s
    · have b := put_at (M := put M t S U) (U := U0) (t := t + o) (S := s) (o := 0) hs
      rw [Nat.add_zero] at b
      have c := put_at (M := M) (U := U) (t := t) (S := S) (o := o) (by omega)
      exact ⟨b.1.trans (h1.symm.trans c.1.symm), b.2.1.trans (h2.symm.trans c.2.1.symm), b.2.2.1.trans (h3.symm.trans c.2.2.1.symm), b.2.2.2.trans (h4.symm.trans c.2.2.2.symm)⟩
    · exact put_outy (by omega)
  · refine put_outy ?_
    have := bel_wg hb a ha
    simp at this
    omega
theorem z_done {ci : Nat} {T : Mem} {G' : List (Nat × Nat)} {l : List Nat} {st : List Value} (hb : Bel w t) (hS : G.length = S) (hl : G'.length = G.length) (hR : Rny U l) (hraw : ∀ o, o ∈ l → 40 ≤ (kat G o).1) (hk : ∀ o, o < S → o ∉ l → kat G' o = kat G o) (he : ∀ o, o ∈ l → ∀ H, va_at (wD w) cls (t + o, cEk w (put M t S U) (t + o) (kat G o).1 (kat G o).2) H → va_at (wD w) cls (t + o, cEk w (put M t S (clrR U)) (t + o) (kat G' o).1 (kat G' o).2) H) (hT : clrR U = T) (kk : C x (wg w t G') Q nL pc L st (put M t S T) f) : C x (wg w t G) Q nL pc L st (put M t S U) f := by
  subst hT
  exact q_hol (w' := wg w t G') rfl (fun H hH => hol_done hb hS hl hR hraw hk (fun o ho => he o ho H) hH) kk
/-- an object's cell, done: its references lie where its kind says -/
theorem ce_done {ci : Nat} (hS : 0 < S) (hc : ci < 20) (h : ∀ k, k < nf ci → match fk ci k with | 0 => True | 1 => True | 2 => mR U 0 k = none | o + 3 => mR U 0 k = some (t + o)) : cEk w (put M t S (clrR U)) (t + 0) ci 0 = cEk w (put M t S U) (t + 0) (40 + ci) 0 := by
  unfold cEk
  rw [if_neg (by omega), if_neg (by omega), if_pos hc, if_neg (by omega), if_pos (by omega), show 40 + ci - 40 = ci by omega]
  refine congrArg Sum.inr (congrArg (Prod.mk ci) (List.map_congr_left (fun k hk => ?_)))
  have hk2 := h k (List.mem_range.mp hk)
  have a := put_at (M := M) (U := clrR U) (t := t) (o := 0) hS
  have b := put_at (M := M) (U := U) (t := t) (o := 0) hS
  unfold fv fvr
  cases e : fk ci k with
  | zero => show Value.int (mI (put M t S (clrR U)) (t + 0) k) = Value.int (mI (put M t S U) (t + 0) k); rw [a.1, b.1]; rfl
  | succ z =>
    rw [e] at hk2
    cases z with
    | zero => show Value.long (mJ (put M t S (clrR U)) (t + 0) k) = Value.long (mJ (put M t S U) (t + 0) k); rw [a.2.1, b.2.1]; rfl
    | succ z =>
      cases z with
      | zero =>
        have hk2 : mR U 0 k = none := hk2
        show va_rf (mR (put M t S (clrR U)) (t + 0) k) = va_rf (mR (put M t S U) (t + 0) k)
        rw [a.2.2.1, b.2.2.1, hk2]; rfl
      | succ o =>
        have hk2 : mR U 0 k = some (t + o) := hk2
        show Value.ref (t + 0 + o) = va_rf (mR (put M t S U) (t + 0) k)
        rw [b.2.2.1, hk2]; rfl
theorem va_done {ci : Nat} {D : va_G} {H : Heap} (hS : 0 < S) (hc : ci < 20) (h : ∀ k, k < nf ci → match fk ci k with | 0 => True | 1 => True | 2 => mR U 0 k = none | o + 3 => mR U 0 k = some (t + o)) : va_at D cls (t + 0, cEk w (put M t S U) (t + 0) (40 + ci) 0) H → va_at D cls (t + 0, cEk w (put M t S (clrR U)) (t + 0) ci 0) H := by
  rw [ce_done hS hc h]; exact id
theorem va_doneA {D : va_G} {H : Heap} {o kd c off st ek en n : Nat} (hS : o < S) (haf : afn kd = some (c, off, st, ek, en)) (h : ∀ i, i < n → mR U o i = some (t + (o + off + st * i))) : va_at D cls (t + o, cEk w (put M t S U) (t + o) (60 + c) n) H → va_at D cls (t + o, cEk w (put M t S (clrR U)) (t + o) kd n) H := by
  obtain ⟨⟨h8, h9⟩, h1, h2, h3, h4, h5⟩ := afn_ge haf
  intro hA
  have e1 : cEk w (put M t S U) (t + o) (60 + c) n = .inl (wAy w c, n, .inr (.inr (.inr (.inr (mR (put M t S U) (t + o)))))) := by
    unfold cEk; rw [if_pos (by omega), show 60 + c - 60 = c by omega]
  have e2 : cEk w (put M t S (clrR U)) (t + o) kd n = .inl (wAy w c, n, .inr (.inr (.inr (.inr (fun i => some (t + o + off + st * i)))))) := by
    unfold cEk; rw [if_neg h8, if_neg h9, if_neg h1, if_neg h2, if_neg h3, if_neg h4, if_neg h5, haf]
  rw [e1] at hA
  rw [e2]
  have hA : H[t + o]? = some (vp_cell (wAy w c) (n, .inr (.inr (.inr (.inr (mR (put M t S U) (t + o))))))) := hA
  show H[t + o]? = some (vp_cell (wAy w c) (n, .inr (.inr (.inr (.inr (fun i => some (t + o + off + st * i)))))))
  rw [hA]
  refine congrArg some ?_
  rw [vp_cell_q, vp_cell_q]
  refine arrV_congr (fun j hj => ?_)
  rw [(put_at hS).2.2.1, h j hj]
  show va_rf _ = va_rf _
  rw [show t + (o + off + st * j) = t + o + off + st * j by omega]
end RY
