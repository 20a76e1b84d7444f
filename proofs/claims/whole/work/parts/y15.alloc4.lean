/-! ===== constructors: contracts, calls; arrays of references ===== -/
theorem wcl_app {w : WX} {M : Mem} {t : Nat} {G : List (Nat × Nat)} {g : Nat × Nat} (hb : Bel w t) : wcl (wg w t (G ++ [g])) M = wcl (wg w t G) M ++ [(t + G.length, cE (wg w t (G ++ [g])) M (t + G.length))] := wcl_grow hb
theorem hol_add {w : WX} {M : Mem} {t : Nat} {G : List (Nat × Nat)} {g : Nat × Nat} {H : Heap} (hb : Bel w t) (hz : wz w ≤ t) (hH : Hol (wg w t G) M H) (hat : va_at (wD w) cls (t + G.length, cE (wg w t (G ++ [g])) M (t + G.length)) H) (hn : ∀ k, mR M (t + G.length) k = none) : Hol (wg w t (G ++ [g])) M H := by
  refine ⟨?_, ?_, wt_grow hb hH.2.2 hn⟩
  · rw [wcl_grow hb]
    refine hH.1.app (fun k x hx => ?_)
    have h0 : k < 1 := (List.getElem?_eq_some_iff.mp hx).1
    rw [show k = 0 by omega] at hx
    cases hx
    exact hat
  · rw [wcl_grow hb]
    have hlt : ∀ (i : Nat) (p : Nat × va_E), (wcl (wg w t G) M)[i]? = some p → p.1 < t + G.length := by
      intro i p hp
      obtain ⟨a, ha, rfl⟩ := List.mem_map.mp (List.mem_of_getElem? hp)
      exact bel_wg hb a ha
    refine ⟨fun i j p q hi hj e => ?_, fun k q hq => ?_⟩
    · by_cases h1 : i < (wcl (wg w t G) M).length <;> by_cases h2 : j < (wcl (wg w t G) M).length
      · rw [List.getElem?_append_left h1] at hi
        rw [List.getElem?_append_left h2] at hj
        exact hH.2.1.1 i j p q hi hj e
      · rw [List.getElem?_append_left h1] at hi
        rw [List.getElem?_append_right (by omega)] at hj
        have hl := (List.getElem?_eq_some_iff.mp hj).1
        simp at hl
        rw [show j - (wcl (wg w t G) M).length = 0 by omega] at hj
        cases hj
        have := hlt i p hi
        omega
      · rw [List.getElem?_append_left h2] at hj
        rw [List.getElem?_append_right (by omega)] at hi
        have hl := (List.getElem?_eq_some_iff.mp hi).1
        simp at hl
        rw [show i - (wcl (wg w t G) M).length = 0 by omega] at hi
        cases hi
        have := hlt j q hj
        omega
      · rw [List.getElem?_append_right (by omega)] at hi hj
        have hl1 := (List.getElem?_eq_some_iff.mp hi).1
        have hl2 := (List.getElem?_eq_some_iff.mp hj).1
        simp at hl1 hl2
        omega
    · by_cases h1 : k < (wcl (wg w t G) M).length
      · rw [List.getElem?_append_left h1] at hq
        exact hH.2.1.2 k q hq
      · rw [List.getElem?_append_right (by omega)] at hq
        have hl := (List.getElem?_eq_some_iff.mp hq).1
        simp at hl
        rw [show k - (wcl (wg w t G) M).length = 0 by omega] at hq
        cases hq
        show wz w ≤ t + G.length
        omega
theorem hol_kept {w : WX} {M : Mem} {H H1 : Heap} (hH : Hol w M H) (hold : ∀ q : Nat, q < H.size → H1[q]? = H[q]?) : Hol w M H1 := ⟨hH.1.kept (fun k x hx => hold x.1 ((hH.1 k x hx).lt)), hH.2⟩
/-- as many cells of one kind, one behind the other -/
theorem hol_addN {w : WX} {M : Mem} {t : Nat} {g : Nat × Nat} {H : Heap} (hb : Bel w t) (hz : wz w ≤ t) (N : Nat) (G : List (Nat × Nat)) (hH : Hol (wg w t G) M H) (hat : ∀ o, o < N → va_at (wD w) cls (t + G.length + o, cEk w M (t + G.length + o) g.1 g.2) H) (hn : ∀ o, o < N → ∀ k, mR M (t + G.length + o) k = none) : Hol (wg w t (G ++ List.replicate N g)) M H := by
  induction N with
  | zero => rw [List.replicate_zero, List.append_nil]; exact hH
  | succ N ih =>
    have h1 := ih (fun o ho => hat o (by omega)) (fun o ho => hn o (by omega))
    rw [List.replicate_succ', ← List.append_assoc]
    have hl : (G ++ List.replicate N g).length = G.length + N := by simp
    refine hol_add hb hz h1 ?_ (fun k => by rw [hl, ← Nat.add_assoc]; exact hn N (by omega) k)
    have hw : Wat (wg w t ((G ++ List.replicate N g) ++ [g])) (t + (G ++ List.replicate N g).length) g.1 g.2 := wat_new (by simp)
    rw [hw.ate M, hl, ← Nat.add_assoc]
    exact hat N (by omega)
def PcI (w : WX) (t ci : Nat) (avs : List Value) (M : Mem) : Array Value → State → Prop := fun a U => a = avs.toArray ∧ U.heap.size = t + 1 ∧ Hol (wg w t [(40 + ci, 0)]) M U.heap ∧ Fix (wg w t [(40 + ci, 0)]) U
def QcI (w : WX) (t : Nat) (G : List (Nat × Nat)) (M : Mem) : Array Value → State → Outcome → State → Prop := fun _ st oc u => oc = .returned none ∧ Hol (wg w t G) M u.heap ∧ va_F (A0 w) st u
def rmI (fr lo kc ks : Nat) : Room := { frames := fr, cells := kc, slots := ks, locals := lo }
def CtI (l : Launch) (w : WX) (t ci : Nat) (y : MethodName) (cc : ByteArray) (nL fr lo kc ks : Nat) (avs : List Value) (M : Mem) (G : List (Nat × Nat)) (M' : Mem) : Prop :=
  Met l y (Cond.code y cc nL none :: UW) (rmI fr lo kc ks) (PcI w t ci avs M) (QcI w t G M') kc ks (A0 w)
def Qi (x : MX) (w : WX) (t : Nat) (G : List (Nat × Nat)) (M : Mem) (kc ks : Nat) : Unit → State → Prop := fun _ => MQ (xb x) (QcI w t G M) (xa x) (xs_ x) kc ks (A0 w)
theorem ctI_of {l : Launch} {w : WX} {t ci : Nat} {y : MethodName} {cc : ByteArray} {nL fr lo kc ks : Nat} {avs : List Value} {M : Mem} {G : List (Nat × Nat)} {M' : Mem} (hy : plainName y.cls = true) (hyn : y.name = "<init>") (hargs : (lg_sl avs).length ≤ nL) (body : ∀ x, xl x = l → (xs_ x).heap.size = t + 1 → (xR x).cells = kc ∧ (xR x).slots = ks → (xt x).name = "<init>" → Ok y.cls nL none fr lo (wg w t [(40 + ci, 0)]) (xat x 0 0) → (xc x).code = cc → C (xat x 0 0) (wg w t [(40 + ci, 0)]) (Qi x w t G M' kc ks) nL 0 (lv_args 0 avs) [] M (some ())) : CtI l w t ci y cc nL fr lo kc ks avs M G M' := by
  refine Met.ofW (cc := cc) (maxL := nL) (ret := none) hy rfl ?_
  intro p e s m args below meth c s₁ B hml hv
  obtain ⟨rfl, hsz, hH, hF⟩ := hv
  have hts := atoms_spec (ws := Cond.code y cc nL none :: UW) B.pre
  have hin : meth.name = "<init>" := (name_of_methodNamed B.named B.method).1.trans hyn
  have hx : Ok y.cls nL none fr lo (wg w t [(40 + ci, 0)]) (p, l, e, rmI fr lo kc ks, s, m, avs.toArray, below, meth, c, 0, 0) := ⟨B.exec, findClass_of_methodNamed B.named, fun q hq => hts q (List.mem_cons_of_mem _ hq), hF, B.returns, B.notSynchronized, ⟨rfl, rfl, Nat.zero_le _, Nat.zero_le _⟩, hml⟩
  have Kk := body (p, l, e, rmI fr lo kc ks, s, m, avs.toArray, below, meth, c, 0, 0) rfl hsz ⟨rfl, rfl⟩ hin hx B.bytes () rfl s.heap [] _ hH va_S.rf (lv_entry avs hargs)
  rw [lg_entry_eq]
  exact Kk
theorem arrV_congr {cA : ClassId} {n : Nat} {g h : Nat → Value} (e : ∀ j, j < n → g j = h j) : arrV cA n g = arrV cA n h := by
  unfold arrV
  congr 1
  apply Array.ext
  · simp
  · intro i h1 h2
    simp at h1
    simp [e i h1]
theorem outer_eq (c : ClassId) (N h0 : Nat) : ∀ i : Nat, Jvm.Free.Multi.outerC c N h0 i = arrV c N (fun j => va_rf (if j < i then some (h0 + 1 + j) else none))
  | 0 => by
    show ({ cls := c, slots := Array.replicate N .null, vm := .none } : Cell) = _
    rw [arrV_new]
    refine congrArg (arrV c N) (funext fun j => ?_)
    simp [va_rf]
  | i + 1 => by
    show (Jvm.Free.Multi.outerC c N h0 i).setSlot i (.ref (h0 + 1 + i)) = _
    rw [outer_eq c N h0 i, arrV_store]
    refine congrArg (arrV c N) (funext fun j => ?_)
    by_cases e : j = i
    · subst e
      simp [updV, va_rf]
    · by_cases h : j < i
      · simp [updV, e, h, Nat.lt_succ_of_lt h]
      · simp [updV, e, h, show ¬ j < i + 1 by omega]
section RI
variable {τ : Type} {own : String} {nL fr lo : Nat} {ret : Option FieldType} {w : WX} {x : MX} {Q : τ → State → Prop} {pc : Nat} {L L' : List (Nat × Value)} {rest : List Value} {M M' : Mem} {f : Option τ} {t K N : Nat} {G G0 : List (Nat × Nat)}
theorem q_vretI {kc ks : Nat} (hx : Ok own nL none fr lo (wg w t G) (xat x kc ks)) (hdg : decode (xc x).code pc = .ok (.return_, 1)) : C (xat x kc ks) (wg w t G) (Qi x w t G M kc ks) nL pc L [] M (some ()) := by
  intro t9 ht H locs ls hH hS hl
  exact W.vret hx.1 rfl hx.2.2.2.2.1 (fun u hu hW => ⟨rfl, by rw [hu]; exact hH, hS.F hu⟩) hS.2.2 hdg hx.2.2.2.2.2.1
theorem q_anew {o : Nat} {kd c n idx : Nat} {Cn : String} {n1 : Int32} (ho : G.length = o) (hb : Bel w t) (hz : wz w ≤ t) (hG : 0 < G.length ∨ K = 0) (hs : (xs_ x).heap.size + K = t + G.length) (hx : Ok own nL ret fr lo (wg w t G) (xat x K N)) (hdg : decode (xc x).code pc = .ok (.anewarray idx, 3)) (hlk : Cond.classLink own idx Cn ∈ UW) (hov : Cond.arrayOver (.object Cn) ∈ UW) (hc : (wtys w)[c]? = some (wAy w c, .object Cn)) (hn : ¬ n1 < 0) (hN : n1.toNatClampNeg = n) (hby : n * 4 ≤ 536870912) (hk : K + 1 ≤ (xR x).cells) (hsl : N + n ≤ (xR x).slots) (hce : cE (wg w t (G ++ [(kd, n)])) M (t + G.length) = .inl (wAy w c, n, .inr (.inr (.inr (.inr (fun _ => none)))))) (hnr : ∀ k, mR M (t + G.length) k = none)
    (kk : C (xat x (K + 1) (N + n)) (wg w t (G ++ [(kd, n)])) Q nL (pc + 3) L (.ref (t + o) :: rest) M f) : C (xat x K N) (wg w t G) Q nL pc L (.int n1 :: rest) M f := by
  subst ho
  refine r_szA hb hG hs (fun t9 ht H locs ls hsz hH hS hl => ?_)
  have hU := hx.2.2.1
  subst hN
  refine W.anew hx.1 rfl hx.2.1 (hU _ hlk) (hU _ hov) rfl hdg rfl hn hby hk hsl fun cA kA comp f1 f2 f3 f4 => ?_
  generalize hH1 : H.push ({ cls := cA, slots := Array.replicate n1.toNatClampNeg .null, vm := .none } : Cell) = H1
  have z1 : H1.size = H.size + 1 := by rw [← hH1, Array.size_push]
  have e1 : H1[H.size]? = some (arrV cA n1.toNatClampNeg (fun _ => .null)) := by rw [← hH1, Array.getElem?_push_size, ← arrV_new]
  have o1 : ∀ q : Nat, q < H.size → H1[q]? = H[q]? := fun q hq => by rw [← hH1, Array.getElem?_push, if_neg (Nat.ne_of_lt hq)]
  have hcA : wAy w c = cA := by
    obtain ⟨kA', comp', g1, g2, g3, g4⟩ := (hx.2.2.2.1.2.1.2 c _ hc).2
    exact Option.some.inj (g4.symm.trans f1)
  rw [show (F0 (xm x) pc ls (.int n1 :: rest)).pc = pc from rfl, hsz]
  refine kk t9 ht H1 locs ls (hol_grow hb hz hH hsz o1 ?_ hnr) ⟨Nat.le_trans hS.1 (by omega), fun q h1 h2 => (o1 q (Nat.lt_of_lt_of_le h1 hS.1)).trans (hS.2.1 q h1 h2), hS.2.2⟩ hl
  rw [hce]
  show H1[t + G.length]? = some (vp_cell _ _)
  rw [← hsz, e1, hcA]; rfl
theorem q_mna {o : Nat} {kd c n k idx ck ekd : Nat} {ty : FieldType} {n1 k1 : Int32} {e9 : (Nat → Int32) ⊕ (Nat → Int64) ⊕ (Nat → UInt32) ⊕ (Nat → UInt64) ⊕ (Nat → Option Nat)} (ho : G.length = o) (hb : Bel w t) (hz : wz w ≤ t) (hG : 0 < G.length ∨ K = 0) (hs : (xs_ x).heap.size + K = t + G.length) (hx : Ok own nL ret fr lo (wg w t G) (xat x K N)) (hdg : decode (xc x).code pc = .ok (.multianewarray idx 2, 4)) (hlk : Cond.classLink own idx ("[" ++ (FieldType.array ty).toString) ∈ UW) (hov : Cond.arrayOver (.array ty) ∈ UW) (harr : Cond.arrayClass ty ∈ UW) (hc : (wtys w)[c]? = some (wAy w c, .array ty)) (hck : (wtys w)[ck]? = some (wAy w ck, ty)) (hra : ∀ U cA, va_RA U cA ty → U.vm.findClass ("[" ++ ty.toString) = some cA) (hts : (FieldType.array ty).toString = "[" ++ ty.toString) (hn : ¬ n1 < 0) (hk1 : ¬ k1 < 0) (hN : n1.toNatClampNeg = n) (hKk : k1.toNatClampNeg = k) (hb1 : n * 4 ≤ 536870912) (hb2 : k * componentBytes ty ≤ 536870912) (hb3 : k ≤ 536870912) (hdf : fits ty (defaultValue ty) = true) (hdd : (defaultValue ty).isDefault = true) (hk : K + (1 + n) ≤ (xR x).cells) (hsl : N + (n + n * k) ≤ (xR x).slots) (haf : afn kd = some (c, 1, 1, ekd, k)) (hin : ∀ cA : ClassId, Jvm.Free.Multi.innerC cA k (defaultValue ty) = vp_cell cA (k, e9)) (hce : ∀ o, o < n → cEk w M (t + G.length + 1 + o) ekd k = .inl (wAy w ck, k, e9)) (hnr : ∀ o, o < 1 + n → ∀ j, mR M (t + G.length + o) j = none)
    (kk : C (xat x (K + 1 + n) (N + n + n * k)) (wg w t ((G ++ [(kd, n)]) ++ List.replicate n (ekd, k))) Q nL (pc + 4) L (.ref (t + o) :: rest) M f) : C (xat x K N) (wg w t G) Q nL pc L (.int k1 :: .int n1 :: rest) M f := by
  subst ho
  refine r_szA hb hG hs (fun t9 ht H locs ls hsz hH hS hl => ?_)
  have hU := hx.2.2.1
  subst hN hKk
  intro T hT X
  obtain ⟨vm₁, cA, comp, -, fA, fC, hO, -, X', step⟩ := Jvm.Stand.multianewarray2F X hx.1 hx.2.1 (hU _ hlk) (hU _ hov) (hU _ harr) (g := F0 (xm x) pc ls (.int k1 :: .int n1 :: rest)) rfl hdg rfl hn hk1 hb1 hb2 hb3 hdf hdd hk hsl
  generalize hF : Jvm.Free.Multi.fill (T.setVm vm₁) cA comp n1.toNatClampNeg k1.toNatClampNeg (defaultValue ty) n1.toNatClampNeg = F at X' step
  have hTh : (T.setVm vm₁).heap = H := hT
  obtain ⟨f1, f2, -, -⟩ := Jvm.Free.Multi.fill_facts (T.setVm vm₁) cA comp n1.toNatClampNeg k1.toNatClampNeg (defaultValue ty) n1.toNatClampNeg
  rw [hF, hTh] at f1 f2
  have hold : ∀ y : Nat, y < H.size → F.heap[y]? = H[y]? := fun y hy => by
    have := Jvm.Free.Multi.fill_old (T.setVm vm₁) cA comp n1.toNatClampNeg k1.toNatClampNeg (defaultValue ty) (a := y) (by rw [hTh]; exact hy) n1.toNatClampNeg
    rw [hF, hTh] at this
    exact this
  have hrow : ∀ j : Nat, j < n1.toNatClampNeg → F.heap[H.size + 1 + j]? = some (vp_cell comp (k1.toNatClampNeg, e9)) := fun j hj => by
    have := Jvm.Free.Multi.fill_inner (T.setVm vm₁) cA comp n1.toNatClampNeg k1.toNatClampNeg (defaultValue ty) n1.toNatClampNeg j hj
    rw [hF, hTh, hin] at this
    exact this
  have hout := outer_eq cA n1.toNatClampNeg H.size n1.toNatClampNeg
  rw [hout] at f2
  have hcA : wAy w c = cA := by
    have h9 : (xs_ x).vm.findClass ("[" ++ (FieldType.array ty).toString) = some (wAy w c) := (hx.2.2.2.1.2.1.2 c _ hc).2
    exact Option.some.inj (h9.symm.trans fA)
  have hco : wAy w ck = comp := by
    have h9 := hra _ _ (hx.2.2.2.1.2.1.2 ck _ hck).2
    rw [hts] at fC
    exact Option.some.inj (h9.symm.trans fC)
  have h1 : Hol (wg w t G) M F.heap := hol_kept hH hold
  have h2 : Hol (wg w t (G ++ [(kd, n1.toNatClampNeg)])) M F.heap := by
    refine hol_add hb hz h1 ?_ (fun j => by have := hnr 0 (by omega) j; rwa [Nat.add_zero] at this)
    have hw : Wat (wg w t (G ++ [(kd, n1.toNatClampNeg)])) (t + G.length) kd n1.toNatClampNeg := wat_new (by simp)
    rw [hw.aff haf]
    show F.heap[t + G.length]? = some (vp_cell (wAy w c) _)
    rw [← hsz, f2, hcA, vp_cell_q]
    refine congrArg some (arrV_congr (fun j hj => ?_))
    rw [if_pos hj]
    show va_rf _ = va_rf _
    rw [show H.size + 1 + 1 * j = H.size + 1 + j by omega]
  have h3 : Hol (wg w t ((G ++ [(kd, n1.toNatClampNeg)]) ++ List.replicate n1.toNatClampNeg (ekd, k1.toNatClampNeg))) M F.heap := by
    refine hol_addN hb hz _ _ h2 (fun o ho => ?_) (fun o ho j => ?_)
    · rw [show t + (G ++ [(kd, n1.toNatClampNeg)]).length + o = t + G.length + 1 + o by simp; omega]
      show va_at _ _ (_, cEk w M (t + G.length + 1 + o) ekd k1.toNatClampNeg) _
      rw [hce o ho]
      show F.heap[t + G.length + 1 + o]? = some (vp_cell (wAy w ck) _)
      rw [← hsz, hrow o ho, hco]
    · have := hnr (1 + o) (by omega) j
      rw [show t + (G ++ [(kd, n1.toNatClampNeg)]).length + o = t + G.length + (1 + o) by simp; omega]
      exact this
  have kk1 := kk t9 ht F.heap locs ls h3 ⟨Nat.le_trans hS.1 (by show H.size ≤ _; omega), fun q a1 a2 => (hold q (Nat.lt_of_lt_of_le a1 hS.1)).trans (hS.2.1 q a1 a2), hS.2.2⟩ hl
  obtain ⟨t2, b1, b2⟩ := kk1 F rfl X'
  refine ⟨t2, step t2 ?_, b2⟩
  rw [show T.heap.size = t + G.length by rw [hT]; exact hsz]
  exact b1
end RI
