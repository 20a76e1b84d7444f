/-! ===== what new cells hold; an object is done ===== -/
theorem sI_put0 {M U : Mem} {t S k : Nat} {v : Int32} (h : 0 < S) : sI (put M t S U) t k v = put M t S (sI U 0 k v) := sI_put (o := 0) h
theorem sJ_put0 {M U : Mem} {t S k : Nat} {v : Int64} (h : 0 < S) : sJ (put M t S U) t k v = put M t S (sJ U 0 k v) := sJ_put (o := 0) h
theorem sR_put0 {M U : Mem} {t S k : Nat} {v : Option Nat} (h : 0 < S) : sR (put M t S U) t k v = put M t S (sR U 0 k v) := sR_put (o := 0) h
section RZ
variable {w : WX} {M U : Mem} {t S n : Nat} {G : List (Nat × Nat)}
theorem ce_int (hS : G.length < S) (hU : mI U G.length = fun _ => 0) : cE (wg w t (G ++ [(20, n)])) (put M t S U) (t + G.length) = .inl (wAy w 0, n, .inl (fun _ => 0)) := by
  have hw : Wat (wg w t (G ++ [(20, n)])) (t + G.length) 20 n := wat_new (by simp)
  rw [hw.ints, (put_at hS).1, hU]; rfl
theorem ce_dyn (hS : G.length < S) (hU : mI U G.length = fun _ => 0) (hN : mN U G.length = n) : cE (wg w t (G ++ [(23, 0)])) (put M t S U) (t + G.length) = .inl (wAy w 0, n, .inl (fun _ => 0)) := by
  have hw : Wat (wg w t (G ++ [(23, 0)])) (t + G.length) 23 0 := wat_new (by simp)
  rw [hw.dyn, (put_at hS).1, (put_at hS).2.2.2, hU, hN]; rfl
theorem ce_long (hS : G.length < S) (hU : mJ U G.length = fun _ => 0) : cE (wg w t (G ++ [(21, n)])) (put M t S U) (t + G.length) = .inl (wAy w 1, n, .inr (.inl (fun _ => 0))) := by
  have hw : Wat (wg w t (G ++ [(21, n)])) (t + G.length) 21 n := wat_new (by simp)
  rw [hw.longs, (put_at hS).2.1, hU]; rfl
theorem ce_bool (hS : G.length < S) (hU : mI U G.length = fun _ => 0) : cE (wg w t (G ++ [(22, n)])) (put M t S U) (t + G.length) = .inl (wAy w 2, n, .inl (fun _ => 0)) := by
  have hw : Wat (wg w t (G ++ [(22, n)])) (t + G.length) 22 n := wat_new (by simp)
  rw [hw.bools, (put_at hS).1, hU]; rfl
theorem ce_refs {c : Nat} (hS : G.length < S) (hU : mR U G.length = fun _ => none) : cE (wg w t (G ++ [(60 + c, n)])) (put M t S U) (t + G.length) = .inl (wAy w c, n, .inr (.inr (.inr (.inr (fun _ => none))))) := by
  have hw : Wat (wg w t (G ++ [(60 + c, n)])) (t + G.length) (60 + c) n := wat_new (by simp)
  rw [hw.rawA, (put_at hS).2.2.1, hU]; rfl
theorem ce_txa (hS : G.length < S) (hU : mR U G.length = fun _ => none) : cE (wg w t (G ++ [(36, n)])) (put M t S U) (t + G.length) = .inl (wAy w 7, n, .inr (.inr (.inr (.inr (fun _ => none))))) := by
  have hw : Wat (wg w t (G ++ [(36, n)])) (t + G.length) 36 n := wat_new (by simp)
  rw [hw.txa, (put_at hS).2.2.1, hU]; rfl
theorem nr_put {o : Nat} (hS : o < S) (hU : mR U o = fun _ => none) : ∀ k, mR (put M t S U) (t + o) k = none := fun k => by rw [(put_at hS).2.2.1, hU]
end RZ
/-- the same list of cells, told by other kinds -/
theorem vd_pl {A : Nat → Prop} {L : List Nat} {f g : Nat → va_E} (h : va_D A (va_pl L f)) : va_D A (va_pl L g) := by
  have key : ∀ (i : Nat) (p : Nat × va_E), (va_pl L g)[i]? = some p → (va_pl L f)[i]? = some (p.1, f p.1) := by
    intro i p hp
    unfold va_pl at hp ⊢
    rw [List.getElem?_map] at hp ⊢
    cases e : L[i]? with
    | none => rw [e] at hp; cases hp
    | some a => rw [e] at hp; cases hp; rfl
  exact ⟨fun i j p q hp hq e => h.1 i j (p.1, f p.1) (q.1, f q.1) (key i p hp) (key j q hq) e, fun k q hq => h.2 k (q.1, f q.1) (key k q hq)⟩
theorem hol_seal {w w' : WX} {M M' : Mem} {H : Heap} (h1 : wD w' = wD w) (h2 : wz w' = wz w) (hd : wdom w' = wdom w) (he : ∀ a ∈ wdom w, va_at (wD w) cls (a, cE w M a) H → va_at (wD w) cls (a, cE w' M' a) H) (hW : WT w' M') (hH : Hol w M H) : Hol w' M' H := by
  refine ⟨?_, ?_, hW⟩
  · rw [h1]
    show va_P (wD w) cls (va_pl (wdom w') (cE w' M')) H
    rw [hd]
    intro k q hq
    unfold va_pl at hq
    rw [List.getElem?_map] at hq
    cases e : (wdom w)[k]? with
    | none => rw [e] at hq; cases hq
    | some a =>
      rw [e] at hq
      cases hq
      refine he a (List.mem_of_getElem? e) (hH.1 k _ ?_)
      show (va_pl (wdom w) (cE w M))[k]? = _
      unfold va_pl
      rw [List.getElem?_map, e]; rfl
  · show va_D (fun q => wz w' ≤ q) (va_pl (wdom w') (cE w' M'))
    rw [h2, hd]
    exact vd_pl hH.2.1
theorem mtk_lt {kd k kd' : Nat} (h : mtk kd k = some kd') : kd' < 40 := by
  unfold mtk at h
  repeat' split at h
  all_goals first | (cases h; omega) | cases h
/-- references stand at no other place than these -/
def Rny (U : Mem) (l : List Nat) : Prop := ∀ o, o ∉ l → mR U o = fun _ => none
theorem Rny.z {l : List Nat} {N : Nat → Nat} : Rny (fun _ _ => 0, fun _ _ => 0, fun _ _ => none, N) l := fun _ _ => rfl
theorem Rny.i {U : Mem} {l : List Nat} {a k : Nat} {v : Int32} (h : Rny U l) : Rny (sI U a k v) l := h
theorem Rny.j {U : Mem} {l : List Nat} {a k : Nat} {v : Int64} (h : Rny U l) : Rny (sJ U a k v) l := h
theorem Rny.r {U : Mem} {l : List Nat} {a k : Nat} {v : Option Nat} (h : Rny U l) (ha : a ∈ l) : Rny (sR U a k v) l := fun o ho => by
  show up2 U.2.2.1 a k v o = _
  rw [up2_n (show o ≠ a from fun e => ho (by rw [e]; exact ha))]
  exact h o ho
theorem Rny.p {U V : Mem} {l : List Nat} {a s : Nat} (h : Rny U l) (hV : Rny V []) : Rny (put U a s V) l := fun o ho => by
  by_cases e : a ≤ o ∧ o < a + s
  · have := (put_at (M := U) (U := V) (t := a) (S := s) (o := o - a) (by omega)).2.2.1
    rw [show a + (o - a) = o by omega] at this
    rw [this]
    exact hV _ (by simp)
  · rw [(put_outy (M := U) (U := V) (by omega)).2.2.1]
    exact h o ho
theorem Rny.c {U : Mem} {l : List Nat} : Rny (clrR U) l := fun _ _ => rfl
/-- an object is done: its own references become part of its kind, those of its arrays likewise -/
theorem hol_done {w : WX} {M U : Mem} {t S : Nat} {G G' : List (Nat × Nat)} {l : List Nat} {H : Heap} (hb : Bel w t) (hS : G.length = S) (hl : G'.length = G.length) (hR : Rny U l) (hraw : ∀ o, o ∈ l → 40 ≤ (kat G o).1) (hk : ∀ o, o < S → o ∉ l → kat G' o = kat G o) (he : ∀ o, o ∈ l → va_at (wD w) cls (t + o, cEk w (put M t S U) (t + o) (kat G o).1 (kat G o).2) H → va_at (wD w) cls (t + o, cEk w (put M t S (clrR U)) (t + o) (kat G' o).1 (kat G' o).2) H) (hH : Hol (wg w t G) (put M t S U) H) : Hol (wg w t G') (put M t S (clrR U)) H := by
  have hcE : ∀ (X : List (Nat × Nat)) (V : Mem) (o : Nat), o < X.length → cE (wg w t X) V (t + o) = cEk w V (t + o) (kat X o).1 (kat X o).2 := fun X V o ho => by
    have hw : Wat (wg w t X) (t + o) (kat X o).1 (kat X o).2 := wat_new (kat_get ho)
    rw [hw.ate V]; rfl
  refine hol_seal (w := wg w t G) (w' := wg w t G') (M := put M t S U) rfl rfl ?_ (fun a ha => ?_) ?_ hH
  · show wdom w ++ _ = wdom w ++ _
    rw [hl]
  · rcases wg_dom.mp ha with h | h
    · have hlt := hb a h
      have e1 : wG (wg w t G') a = wG w a := by show (if _ then _ else _) = _; rw [if_neg (by omega)]
      have e2 : wG (wg w t G) a = wG w a := by show (if _ then _ else _) = _; rw [if_neg (by omega)]
      show va_at _ _ (a, cEk w _ a (wG (wg w t G) a).1 (wG (wg w t G) a).2) _ → va_at _ _ (a, cEk w _ a (wG (wg w t G') a).1 (wG (wg w t G') a).2) _
      rw [e1, e2]
      obtain ⟨a1, a2, a3, a4⟩ := put_outy (M := M) (U := U) (t := t) (S := S) (a := a) (Or.inl hlt)
      obtain ⟨b1, b2, b3, b4⟩ := put_outy (M := M) (U := clrR U) (t := t) (S := S) (a := a) (Or.inl hlt)
      rw [cEk_I (b1.trans a1.symm) (b2.trans a2.symm) (b3.trans a3.symm) (b4.trans a4.symm)]
      exact id
    · obtain ⟨o, rfl⟩ : ∃ o, a = t + o := ⟨a - t, by omega⟩
      have ho : o < G.length := by omega
      rw [hcE G' _ o (by omega), hcE G _ o ho]
      by_cases hm : o ∈ l
      · exact he o hm
      · rw [hk o (by omega) hm]
        obtain ⟨a1, a2, a3, a4⟩ := put_at (M := M) (U := U) (t := t) (S := S) (o := o) (by omega)
        obtain ⟨b1, b2, b3, b4⟩ := put_at (M := M) (U := clrR U) (t := t) (S := S) (o := o) (by omega)
        rw [cEk_I (b1.trans a1.symm) (b2.trans a2.symm) (b3.trans ((hR o hm).symm.trans a3.symm)) (b4.trans a4.symm)]
        exact id
  · intro a kd n ha k kd' b hm hb2
    rcases wat_inv hb ha with h1 | ⟨o, rfl, ho⟩
    · have hlt := hb a h1.1
      rw [(put_outy (M := M) (U := clrR U) (t := t) (S := S) (a := a) (Or.inl hlt)).2.2.1] at hb2
      have h3 := hH.2.2 a kd n (wat_old hb h1) k kd' b hm (by rw [(put_outy (M := M) (U := U) (t := t) (S := S) (a := a) (Or.inl hlt)).2.2.1]; exact hb2)
      rcases wat_inv hb h3 with h4 | ⟨p, rfl, hp⟩
      · exact wat_old hb h4
      · have hp1 := (List.getElem?_eq_some_iff.mp hp).1
        have e9 : kat G p = (kd', 0) := Option.some.inj ((kat_get hp1).symm.trans hp)
        by_cases hm2 : p ∈ l
        · have h9 := hraw p hm2
          rw [e9] at h9
          have := mtk_lt hm
          simp only at h9
          omega
        · refine wat_new ?_
          rw [kat_get (by omega), hk p (by omega) hm2, e9]
    · rw [(put_at (M := M) (U := clrR U) (t := t) (S := S) (o := o) (by have := (List.getElem?_eq_some_iff.mp ho).1; omega)).2.2.1] at hb2
      cases hb2
