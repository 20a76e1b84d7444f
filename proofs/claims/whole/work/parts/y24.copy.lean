abbrev yJ_copyOf : MethodName := ({ cls := "java/util/Arrays", name := "copyOf", desc := "([II)[I" } : Jvm.MethodName)
def tbJ_copyOf : List (Nat × Instr × Nat) := [(0, .iload_n 1, 1), (1, .aload_n 0, 1), (2, .arraylength, 1), (3, .if_icmp .ne 11, 3), (6, .aload_n 0, 1), (7, .invokevirtual 316, 3), (10, .checkcast 317, 3), (13, .areturn, 1), (14, .iload_n 1, 1), (15, .newarray .int, 2), (17, .astore_n 2, 1), (18, .aload_n 0, 1), (19, .iconst 0, 1), (20, .aload_n 2, 1), (21, .iconst 0, 1), (22, .aload_n 0, 1), (23, .arraylength, 1), (24, .iload_n 1, 1), (25, .invokestatic 304, 3), (28, .invokestatic 150, 3), (31, .aload_n 2, 1), (32, .areturn, 1)]
theorem dJ_copyOf : ∀ q ∈ tbJ_copyOf, decode prog_23_method_123_code q.1 = .ok q.2 := by decide +kernel
theorem mdJ_copyOf : MD ({ cls := "java/util/Arrays", name := "copyOf", desc := "([II)[I" } : Jvm.MethodName) prog_23_method_123_code 3 (some (.array .int)) 2 := ⟨uw_in (in_4 _ (List.mem_of_getElem? (i := 85) rfl)) rfl, uw_in (in_1 _ (List.mem_of_getElem? (i := 20) rfl)) rfl, by decide, by decide, by decide +kernel⟩
theorem mstJ_copyOf : Cond.static ({ cls := "java/util/Arrays", name := "copyOf", desc := "([II)[I" } : Jvm.MethodName) ∈ UW := uw_in (in_4 _ (List.mem_of_getElem? (i := 84) rfl)) rfl
theorem mlA_316 : Cond.methodLink "java/util/Arrays" 316 ⟨"[I", "clone", "()Ljava/lang/Object;"⟩ ∈ UW := uw_in (in_4 _ (List.mem_of_getElem? (i := 86) rfl)) rfl
theorem mlA_304 : Cond.methodLink "java/util/Arrays" 304 ({ cls := "java/lang/Math", name := "min", desc := "(II)I" } : Jvm.MethodName) ∈ UW := uw_in (in_4 _ (List.mem_of_getElem? (i := 93) rfl)) rfl
theorem mlA_150 : Cond.methodLink "java/util/Arrays" 150 arraycopyName ∈ UW := uw_in (in_4 _ (List.mem_of_getElem? (i := 94) rfl)) rfl
theorem smA : Cond.sameMethod "[I" "java/lang/Object" "clone" "()Ljava/lang/Object;" ∈ UW := uw_in (in_4 _ (List.mem_of_getElem? (i := 87) rfl)) rfl
theorem ntA : Cond.native ⟨"java/lang/Object", "clone", "()Ljava/lang/Object;"⟩ ∈ UW := uw_in (in_4 _ (List.mem_of_getElem? (i := 88) rfl)) rfl
theorem inA : Cond.instanceMethod ⟨"java/lang/Object", "clone", "()Ljava/lang/Object;"⟩ ∈ UW := uw_in (in_4 _ (List.mem_of_getElem? (i := 89) rfl)) rfl
theorem seA : Cond.selects "[I" ⟨"[I", "clone", "()Ljava/lang/Object;"⟩ ⟨"java/lang/Object", "clone", "()Ljava/lang/Object;"⟩ ∈ UW := uw_in (in_4 _ (List.mem_of_getElem? (i := 90) rfl)) rfl
theorem caA : Cond.castable "[I" "java/lang/Cloneable" ∈ UW := uw_in (in_4 _ (List.mem_of_getElem? (i := 91) rfl)) rfl
theorem clA_317 : Cond.classLink "java/util/Arrays" 317 "[I" ∈ UW := uw_in (in_4 _ (List.mem_of_getElem? (i := 92) rfl)) rfl
/-! ===== Arrays.copyOf ===== -/
def evRG {σ : Type} : Nat × σ × Mem → Option Value := fun t => some (.ref t.1)
/-- a row of ints as long as n: the first n of another one -/
def cpU (M : Mem) (p n : Nat) : Mem := (fun _ k => if k < n then mI M p k else 0, fun _ _ => 0, fun _ _ => none, fun _ => n)
def zrU (n : Nat) : Mem := (fun _ _ => 0, fun _ _ => 0, fun _ _ => none, fun _ => n)
theorem cp_eq {M : Mem} {a p n : Nat} (h : p ≠ a) : aI (put M a 1 (zrU n)) a (va_cpy (mI (put M a 1 (zrU n)) p) (mI (put M a 1 (zrU n)) a) 0 0 n) = put M a 1 (cpU M p n) := by
  have hp := put_outy (M := M) (U := zrU n) (t := a) (S := 1) (a := p) (by omega)
  have ha := put_at (M := M) (U := zrU n) (t := a) (S := 1) (o := 0) (by omega)
  rw [Nat.add_zero] at ha
  refine put_ext (fun o ho => ?_) (fun q hq => ?_)
  · obtain rfl : o = 0 := by omega
    rw [Nat.add_zero]
    refine ⟨?_, ha.2.1, ha.2.2.1, ha.2.2.2⟩
    rw [aI_self]
    funext k
    show (if 0 ≤ k ∧ k < 0 + n then mI (put M a 1 (zrU n)) p (0 + (k - 0)) else mI (put M a 1 (zrU n)) a k) = if k < n then mI M p k else 0
    by_cases hk : k < n
    · rw [if_pos (by omega), if_pos hk, hp.1, Nat.zero_add, Nat.sub_zero]
    · rw [if_neg (by omega), if_neg hk, ha.1]; rfl
  · have hb := put_outy (M := M) (U := zrU n) (t := a) (S := 1) (a := q) hq
    refine ⟨?_, hb.2.1, hb.2.2.1, hb.2.2.2⟩
    show va_up (put M a 1 (zrU n)).1 a _ q = _
    rw [va_up_ne _ _ (by omega)]
    exact hb.1
theorem ix_nat {n : Nat} (h : n ≤ 800) : ix (Int32.ofNat n) = n := by
  have e1 : (Int32.ofNat n).toInt = n := Int32.toInt_ofNat_of_lt (by omega)
  show (Int32.ofNat n).toInt.toNat = n
  rw [e1]; rfl
theorem imn_le {p : Int32} {n : Nat} (h0 : ¬ p < 0) (h1 : ix p ≤ n) (h2 : n ≤ 800) : imn (Int32.ofNat n) p = p := by
  have e1 : (Int32.ofNat n).toInt = n := Int32.toInt_ofNat_of_lt (by omega)
  have e2 : ix p = p.toInt.toNat := rfl
  have e3 : ¬ p.toInt < 0 := fun h => h0 (Int32.lt_iff_toInt_lt.mpr (by simpa using h))
  unfold imn
  split
  · rfl
  · rename_i h
    apply Int32.toInt_inj.mp
    rw [e1]
    have : ¬ p.toInt < (Int32.ofNat n).toInt := fun q => h (Int32.lt_iff_toInt_lt.mpr q)
    omega
section RT
variable {τ : Type} {own : String} {nL fr lo : Nat} {ret : Option FieldType} {w : WX} {x : MX} {Q : τ → State → Prop} {pc pc' : Nat} {L L' : List (Nat × Value)} {rest : List Value} {M M' : Mem} {f : Option τ} {a : Nat}
theorem z_neq {x1 y1 : Int32} {off : Int} (tgt : Nat) (hx : Ok own nL ret fr lo w x) (hdg : decode (xc x).code pc = .ok (.if_icmp .ne off, 3)) (ht : (pc : Int) + off = (tgt : Int)) (kt : ¬ x1 = y1 → C x w Q nL tgt L rest M f) (hp : pc + 3 = pc') (kf : x1 = y1 → C x w Q nL pc' L rest M f) : C x w Q nL pc L (.int y1 :: .int x1 :: rest) M f := by
  have e := r_icmp_ne (tgt := tgt) hx hdg ht kt hp (fun q => kf (Classical.not_not.mp q))
  rwa [ite_self] at e
theorem z_castA {p n idx : Nat} (hx : Ok own nL ret fr lo w x) (hdg : decode (xc x).code pc = .ok (.checkcast idx, 3)) (hlk : Cond.classLink own idx "[I" ∈ UW) (ha : Wat w p 23 n) (kk : C x w Q nL (pc + 3) L (.ref p :: rest) M f) : C x w Q nL pc L (.ref p :: rest) M f := by
  intro t ht H locs ls hH hS hl
  obtain ⟨q0, hq⟩ := wcl_get (M := M) ha.1
  rw [ha.dyn] at hq
  exact va_castA hx.1 rfl hx.2.1 (hx.2.2.1 _ hlk) hH.1 q0 hq (hx.2.2.2.1.2.1.2 0 _ rfl).2 hdg (kk t ht H locs ls hH hS hl)
theorem z_newD {n : Nat} {n1 : Int32} (hb : Bel w a) (hz : wz w ≤ a) (hs : (xs_ x).heap.size = a) (hx : Ok own nL ret fr lo (wg w a []) (xat x 0 0)) (hdg : decode (xc x).code pc = .ok (.newarray .int, 2)) (hn : ¬ n1 < 0) (hN : n1.toNatClampNeg = n) (hby : n * 4 ≤ 536870912) (hk : 1 ≤ (xR x).cells) (hsl : n ≤ (xR x).slots) (hp : pc + 2 = pc') (kk : C (xat x 1 n) (wg w a [(23, 0)]) Q nL pc' L (.ref a :: rest) (put M a 1 (zrU n)) f) : C (xat x 0 0) (wg w a []) Q nL pc L (.int n1 :: rest) M f := by
  subst hp
  have hb0 : Bel (wg w a []) a := by rw [wg_nil]; exact hb
  refine q_free (put_free (t := a) (S := 1) (U := zrU n) hb0) ?_
  have e : C (xat x (0 + 1) (0 + n)) (wg w a ([] ++ [(23, 0)])) Q nL (pc + 2) L (.ref (a + 0) :: rest) (put M a 1 (zrU n)) f := by
    rw [show 0 + n = n from Nat.zero_add n]; exact kk
  exact q_newa (gn := 0) (G := []) (K := 0) (N := 0) (kd := 23) (c := 0) (n := n) (o := 0) (ty := .int) (e9 := .inl (fun _ => 0)) rfl hb hz (Or.inr rfl) (by rw [hs]; rfl) hx hdg rfl ar_int rfl (fun _ _ h => h) hn hN hby hk (by rw [Nat.zero_add]; exact hsl) (fun _ => rfl) (ce_dyn (G := []) (S := 1) (n := n) (by decide) rfl rfl) (nr_put (by decide) rfl) e
theorem z_copyD {p b s0 d0 k idx : Nat} {sp dp n : Int32} (hx : Ok own nL ret fr lo w x) (hdg : decode (xc x).code pc = .ok (.invokestatic idx, 3)) (hlk : Cond.methodLink own idx arraycopyName ∈ UW) (ha : Wat w p 23 0) (hb : Wat w b 23 0) (hs : ix sp = s0 ∧ ¬ sp < 0) (hd : ix dp = d0 ∧ ¬ dp < 0) (hk : ix n = k ∧ ¬ n < 0) (h4 : s0 + k ≤ mN M p) (h5 : d0 + k ≤ mN M b) (hR : 1 ≤ fr ∧ (rest.map fun v => v.category).sum + (nativeFrameWords "java/lang/System" "arraycopy" 5 + 11) ≤ lo) (hp : pc + 3 = pc') (kk : C x w Q nL pc' L rest (aI M b (va_cpy (mI M p) (mI M b) s0 d0 k)) f) : C x w Q nL pc L (.int n :: .int dp :: .ref b :: .int sp :: .ref p :: rest) M f := by
  subst hp
  intro t ht H locs ls hH hS hl
  obtain ⟨q0, hq0⟩ := wcl_get (M := M) ha.1
  obtain ⟨q1, hq1⟩ := wcl_get (M := M) hb.1
  have hq1' := hq1
  rw [ha.dyn] at hq0
  rw [hb.dyn] at hq1'
  obtain ⟨rfl, hs⟩ := hs
  obtain ⟨rfl, hd⟩ := hd
  obtain ⟨rfl, hk⟩ := hk
  have hU := hx.2.2.1
  refine va_copyi hx.1 rfl (hx.2.2.2.2.2.2.2.trans hl.1.symm) hx.2.1 (hU _ hlk) (hU _ ac_nat) (hU _ ac_st) (hU _ ac_ini) hx.2.2.2.1.2.1 hH.1 hH.2.1 hS q0 q1 0 0 hq0 hq1' rfl rfl rfl hs hd hk h4 h5 (fun _ _ => rfl) (by rw [hx.2.2.2.2.2.2.1.1]; exact hR.1) (by rw [hx.2.2.2.2.2.2.1.2.1]; exact hR.2) hdg (fun H1 locs1 hP1 hD1 hS1 => ?_)
  rw [wcl_set (M' := aI M b (va_cpy (mI M p) (mI M b) (ix sp) (ix dp) (ix n))) hH.2.1 hb.1 hq1 (cE_aI w M b _) (by rw [hb.dyn, aI_self]; rfl)] at hP1 hD1
  exact kk t ht H1 locs1 ls ⟨hP1, hD1, hH.2.2.I (fun _ => rfl)⟩ hS1 hl
theorem z_clone {p n idx : Nat} (hb : Bel w a) (hz : wz w ≤ a) (hs : (xs_ x).heap.size = a) (hx : Ok own nL ret fr lo (wg w a []) (xat x 0 0)) (hdg : decode (xc x).code pc = .ok (.invokevirtual idx, 3)) (hlk : Cond.methodLink own idx ⟨"[I", "clone", "()Ljava/lang/Object;"⟩ ∈ UW) (h0 : Wat (wg w a []) p 23 0) (hn : mN M p = n) (hk : 1 ≤ (xR x).cells) (hsl : n ≤ (xR x).slots) (hR : 1 ≤ fr ∧ 30 ≤ lo) (hcat : (rest.map fun v => v.category).sum ≤ 8) (kk : C (xat x 1 n) (wg w a [(23, 0)]) Q nL (pc + 3) L (.ref a :: rest) (put M a 1 (cpU M p n)) f) : C (xat x 0 0) (wg w a []) Q nL pc L (.ref p :: rest) M f := by
  have hb0 : Bel (wg w a []) a := by rw [wg_nil]; exact hb
  refine q_free (put_free (t := a) (S := 1) (U := cpU M p n) hb0) ?_
  have hpa : p ≠ a := fun e => by have := hb0 p h0.1; omega
  have hout := put_outy (M := M) (U := cpU M p n) (t := a) (S := 1) (a := p) (by omega)
  have hin := put_at (M := M) (U := cpU M p n) (t := a) (S := 1) (o := 0) (by omega)
  rw [Nat.add_zero] at hin
  generalize hM1 : put M a 1 (cpU M p n) = M1 at kk hout hin ⊢
  refine r_szA (G := []) hb (Or.inr rfl) (by rw [hs]; rfl) (fun t9 ht H locs ls hsz hH hS hl => ?_)
  have hsz : H.size = a := hsz
  obtain ⟨q0, hq⟩ := wcl_get (M := M1) h0.1
  rw [h0.dyn, hout.2.2.2, hn, hout.1] at hq
  have hcell : H[p]? = some (vp_cell (wAy w 0) (n, .inl (mI M p))) := hH.1 q0 _ hq
  have hKa := hx.2.2.2.1.2.1.2 0 _ rfl
  have hnm : (xs_ x).vm.findClass "[I" = some (wAy w 0) := hKa.2
  obtain ⟨c0, t0', f1, f2, f3⟩ := Cond.castable_spec (hx.2.2.1 _ caA)
  cases hnm.symm.trans f1
  intro T hT X
  have hU := hx.2.2.1
  have hml9 : (xc x).maxLocals = nL := hx.2.2.2.2.2.2.2
  have hfr9 : (xR x).frames = fr := hx.2.2.2.2.2.2.1.1
  have hlo9 : (xR x).locals = lo := hx.2.2.2.2.2.2.1.2.1
  obtain ⟨-, kS, hkS, compS, hkindS⟩ := hKa.1 0 (fun _ => .null)
  obtain ⟨-, kA, hkA, comp, hkind⟩ := State.isArrayOf_alike X.warmed.alike (hKa.1 0 (fun _ => .null))
  have hsz9 : (vp_cell (wAy w 0) (n, .inl (mI M p))).slots.size = n := arrV_size _ _ _
  obtain ⟨vm', X', st⟩ := X.cloneArray hx.1 hx.2.1 (hU _ hlk) (hU _ smA) (hU _ ntA) (hU _ inA) (hU _ seA) (a := p) (cell := vp_cell (wAy w 0) (n, .inl (mI M p))) (by rw [hT]; exact hcell) (fun k h => by cases h) (fun h => by cases h) hnm f2 f3
    (fun i v hv => by
      have hk' : T.vm.classes[wAy w 0]? = some kA := hkA
      have hv2 : ∃ z : Int32, v = .int z := by
        rw [show (vp_cell (wAy w 0) (n, .inl (mI M p))) = arrV (wAy w 0) n (fun j => .int (mI M p j)) from rfl] at hv
        obtain ⟨h1, h2⟩ := Array.getElem?_eq_some_iff.mp hv
        rw [← h2]
        simp [arrV]
      obtain ⟨z, rfl⟩ := hv2
      have hc9 : (vp_cell (wAy w 0) (n, .inl (mI M p))).cls = wAy w 0 := rfl
      rw [hc9]
      simp [State.fitsSlot, State.slotType?, hk', hkind, fits])
    (g := F0 (xm x) pc ls (.ref p :: rest)) rfl (by show ls.size = _; rw [hml9]; exact hl.1) rfl hdg (by rw [hfr9]; exact hR.1) (by rw [hlo9]; show 2 * 0 + _ + 14 ≤ lo; omega) hk (by rw [hsz9, Nat.zero_add]; exact hsl) (hloader := Vm.clonesLoader_of_array hkS hkindS)
  have e9 : ({ cls := (vp_cell (wAy w 0) (n, .inl (mI M p))).cls, slots := (vp_cell (wAy w 0) (n, .inl (mI M p))).slots } : Cell) = vp_cell (wAy w 0) (n, .inl (mI M p)) := rfl
  rw [e9, hsz9, Nat.zero_add, Nat.zero_add] at X'
  rw [e9] at st
  generalize hH1 : H.push (vp_cell (wAy w 0) (n, .inl (mI M p))) = H1
  have z1 : H1.size = H.size + 1 := by rw [← hH1, Array.size_push]
  have e1 : H1[H.size]? = some (vp_cell (wAy w 0) (n, .inl (mI M p))) := by rw [← hH1, Array.getElem?_push_size]
  have o1 : ∀ q : Nat, q < H.size → H1[q]? = H[q]? := fun q hq => by rw [← hH1, Array.getElem?_push, if_neg (Nat.ne_of_lt hq)]
  have hnew : Hol (wg w a ([] ++ [(23, 0)])) M1 H1 := by
    refine hol_grow (G := []) hb hz hH hsz o1 ?_ (fun k => by show mR M1 (a + 0) k = none; rw [Nat.add_zero, hin.2.2.1]; rfl)
    have hw : Wat (wg w a ([] ++ [(23, 0)])) (a + 0) 23 0 := wat_new (o := 0) (by simp)
    show va_at _ _ (a + 0, cE (wg w a ([] ++ [(23, 0)])) M1 (a + 0)) H1
    rw [hw.dyn]
    show H1[a + 0]? = some (vp_cell (wAy w 0) (mN M1 (a + 0), .inl (mI M1 (a + 0))))
    rw [Nat.add_zero, ← hsz, e1, hsz, hin.2.2.2, hin.1]
    refine congrArg some ?_
    show arrV (wAy w 0) n (fun j => .int (mI M p j)) = arrV (wAy w 0) n (fun j => .int (if j < n then mI M p j else 0))
    exact arrV_congr (fun j hj => by rw [if_pos hj])
  have kk1 := kk t9 ht H1 locs ls hnew ⟨Nat.le_trans hS.1 (by omega), fun q h1 h2 => (o1 q (Nat.lt_of_lt_of_le h1 hS.1)).trans (hS.2.1 q h1 h2), hS.2.2⟩ hl
  obtain ⟨t2, b1, b2⟩ := kk1 ((T.setVm vm').pushCell (vp_cell (wAy w 0) (n, .inl (mI M p)))) (by rw [← hH1, ← hT]; rfl) X'
  refine ⟨t2, st t2 ?_, b2⟩
  rw [hT, hsz]
  exact b1
end RT
set_option maxRecDepth 20000 in
theorem cJ_copyOf (l : Launch) (w : WX) (a : Nat) (hb : Bel w a) (hz0 : wz w ≤ a) (hL : Lay w) (p0 : Nat) (h0 : Wat w p0 23 0) (p1 : Int32) (ks : Nat) (M : Mem) (hn : ¬ p1 < 0) (hle : ix p1 ≤ mN M p0) (hlt : mN M p0 ≤ 800) (hks : ix p1 ≤ ks) : CtG l w a yJ_copyOf prog_23_method_123_code 3 (some (.array .int)) 1 40 1 ks evRG egM emG [.ref p0, .int p1] M (some (a, [(23, 0)], put M a 1 (cpU M p0 (ix p1)))) := by
  refine ctG_of (by decide) (Nat.le_of_ble_eq_true rfl) (fun x hl hsz hR hx hb9 => ?_)
  subst hl
  have hd : ∀ i, DAt (xc x).code (tbJ_copyOf[i]?) := fun i => by rw [hb9]; exact dat_of dJ_copyOf i
  have h00 := h0
  have h0 : Wat (wg w a []) p0 23 0 := wat_old hb h0
  have hpa : p0 ≠ a := fun e => by have := hb p0 h00.1; omega
  show C (xat x 0 0) (wg w a []) (Qg x w a 1 ks evRG egM emG) 3 0 [(0, .ref p0), (1, .int p1)] [] M _
  refine r_iload_n (pc' := 1) hx (hd 0) rfl 1 rfl rfl ?_
  refine r_aload_n (pc' := 2) hx (hd 1) rfl 0 rfl rfl ?_
  refine r_alenD (pc' := 3) hx (hd 2) h0 rfl ?_
  refine z_neq (pc' := 6) 14 hx (hd 3) (by decide) (fun _ => ?_) rfl (fun he => ?_)
  · refine r_iload_n (pc' := 15) hx (hd 8) rfl 1 rfl rfl ?_
    refine z_newD (n := ix p1) (pc' := 17) hb hz0 hsz hx (hd 9) hn rfl (by omega) (by rw [hR.1]; decide) (by rw [hR.2]; exact hks) rfl ?_
    have hx : Ok _ 3 _ _ _ (wg w a [(23, 0)]) (xat x 1 (ix p1)) := ok_grow (w' := wg w a [(23, 0)]) hx rfl rfl rfl rfl (lay_wg hL hb (by decide)) (by rw [hR.1]; decide) (by rw [hR.2]; exact hks)
    have h0 : Wat (wg w a [(23, 0)]) p0 23 0 := wat_old hb h00
    have h2 : Wat (wg w a [(23, 0)]) a 23 0 := wat_new (o := 0) (by decide)
    have hp := put_outy (M := M) (U := zrU (ix p1)) (t := a) (S := 1) (a := p0) (by omega)
    have ha := put_at (M := M) (U := zrU (ix p1)) (t := a) (S := 1) (o := 0) (by omega)
    rw [Nat.add_zero] at ha
    refine r_astore_n (pc' := 18) (L' := [(2, .ref a), (0, .ref p0), (1, .int p1)]) hx (hd 10) rfl (by decide) rfl rfl ?_
    refine r_aload_n (pc' := 19) hx (hd 11) rfl 1 rfl rfl ?_
    refine r_iconst (pc' := 20) (v := 0) hx (hd 12) (by decide) rfl ?_
    refine r_aload_n (pc' := 21) hx (hd 13) rfl 0 rfl rfl ?_
    refine r_iconst (pc' := 22) (v := 0) hx (hd 14) (by decide) rfl ?_
    refine r_aload_n (pc' := 23) hx (hd 15) rfl 1 rfl rfl ?_
    refine r_alenD (pc' := 24) hx (hd 16) h0 rfl ?_
    refine r_iload_n (pc' := 25) hx (hd 17) rfl 2 rfl rfl ?_
    refine r_mmin (pc' := 28) hx (hd 18) mlA_304 ⟨Nat.le_of_ble_eq_true rfl, Nat.le_of_ble_eq_true rfl⟩ (Nat.le_of_ble_eq_true rfl) rfl ?_
    have hmin : imn (Int32.ofNat (mN (put M a 1 (zrU (ix p1))) p0)) p1 = p1 := by
      rw [hp.2.2.2]
      exact imn_le hn hle hlt
    refine z_val (v := p1) hmin ?_
    refine z_copyD (pc' := 31) (s0 := 0) (d0 := 0) (k := ix p1) hx (hd 19) mlA_150 h0 h2 ⟨by decide, by decide⟩ ⟨by decide, by decide⟩ ⟨rfl, hn⟩ (by rw [hp.2.2.2]; omega) (by rw [ha.2.2.2]; exact Nat.le_of_eq (Nat.zero_add _)) ⟨by decide, by decide⟩ rfl ?_
    rw [cp_eq hpa]
    refine r_aload_n (pc' := 32) hx (hd 20) rfl 0 rfl rfl ?_
    exact q_aretG hx (hd 21) rfl rfl rfl (Nat.le_refl 1) hks
  · have hn0 : ix p1 = mN M p0 := by
      rw [he]
      exact ix_nat hlt
    refine r_aload_n (pc' := 7) hx (hd 4) rfl 0 rfl rfl ?_
    refine z_clone (n := ix p1) hb hz0 hsz hx (hd 5) mlA_316 h0 hn0.symm (by rw [hR.1]; decide) (by rw [hR.2]; exact hks) ⟨by decide, by decide⟩ (by decide) ?_
    have hx : Ok _ 3 _ _ _ (wg w a [(23, 0)]) (xat x 1 (ix p1)) := ok_grow (w' := wg w a [(23, 0)]) hx rfl rfl rfl rfl (lay_wg hL hb (by decide)) (by rw [hR.1]; decide) (by rw [hR.2]; exact hks)
    refine z_castA hx (hd 6) clA_317 (wat_new (o := 0) (kd := 23) (n := 0) (by decide)) ?_
    exact q_aretG hx (hd 7) rfl rfl rfl (Nat.le_refl 1) hks
