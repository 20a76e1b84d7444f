/-! ===== calls and entries ===== -/
theorem ao_keep {s U : State} {args a' : Array Value} (hW : s.WarmedH U.vm) {ty : FieldType} (h : (Cond.arrayOver ty).before args s = true) : (Cond.arrayOver ty).before a' U = true := by
  have hvm := hW.alike
  have hb : U.vm.bare = s.vm.bare := hvm.bare_eq
  have hidx : ∀ comp : ClassId, (U.vm.classes.findIdx? fun (x : Class) => match x.kind with | .array component _ => component == comp | _ => false) = (s.vm.classes.findIdx? fun (x : Class) => match x.kind with | .array component _ => component == comp | _ => false) := by
    intro comp
    have e1 := va_idx_bare U.vm comp
    have e2 := va_idx_bare s.vm comp
    rw [hb] at e1
    exact e1.symm.trans e2
  have hfc : ∀ n, U.vm.findClass n = s.vm.findClass n := fun n => hvm.findClass n none
  have hk : ∀ (c : Nat) (g : Class → Bool), (∀ k k' : Class, k'.kind = k.kind → g k' = g k) → (U.vm.classes[c]?).map g = (s.vm.classes[c]?).map g := by
    intro c g hg
    cases e : s.vm.classes[c]? with
    | some k =>
      obtain ⟨k', hk', he⟩ := hvm.2.2 _ _ e
      rw [hk']
      simp only [Option.map_some]
      rw [hg k k' (by rw [he])]
    | none =>
      cases e2 : U.vm.classes[c]? with
      | none => rfl
      | some k' =>
        obtain ⟨k, hk, -⟩ := hvm.symm.2.2 _ _ e2
        rw [hk] at e; cases e
  have key : ∀ comp : ClassId, ((U.vm.classes.findIdx? fun (x : Class) => match x.kind with | .array component _ => component == comp | _ => false).bind fun c => (U.vm.classes[c]?).map fun (k : Class) => match k.kind with
      | .array _ ty' => decide (ty' = ty) && decide (U.vm.findClass ("[" ++ ty.toString) = some c)
      | _ => false) = ((s.vm.classes.findIdx? fun (x : Class) => match x.kind with | .array component _ => component == comp | _ => false).bind fun c => (s.vm.classes[c]?).map fun (k : Class) => match k.kind with
      | .array _ ty' => decide (ty' = ty) && decide (s.vm.findClass ("[" ++ ty.toString) = some c)
      | _ => false) := by
    intro comp
    rw [hidx comp, hfc]
    congr 1
    funext c
    exact hk c _ (fun k k' e => by rw [e])
  have e : (Cond.arrayOver ty).value a' U none U [] = (Cond.arrayOver ty).value args s none s [] := by
    cases ty with
    | object n =>
      show (U.vm.findClass n).bind _ = (s.vm.findClass n).bind _
      rw [hfc]
      exact congrArg _ (funext key)
    | array t =>
      show (U.vm.findClass _).bind _ = (s.vm.findClass _).bind _
      rw [hfc]
      exact congrArg _ (funext key)
    | _ => rfl
  have h1 : ((Cond.arrayOver ty).value args s none s [] == some true) = true := h
  show ((Cond.arrayOver ty).value a' U none U [] == some true) = true
  rw [e]
  exact h1
theorem uw_good : ∀ q ∈ UW, (goodWord q || isNest q) = true := fun q h => (List.mem_filter.mp h).2
theorem uw_keep {s U : State} {args a' : Array Value} (hW : s.WarmedH U.vm) {q : Cond} (hq : q ∈ UW) (h : q.before args s = true) : q.before a' U = true := by
  have g := uw_good q hq
  rw [Bool.or_eq_true] at g
  rcases g with g | g
  · exact word_at hW (good_of_word g) h
  · cases q with
    | methodLinkNest a i y hst => exact va_Nw.use rfl (va_Nw.warmM hW (va_Nw.of rfl h))
    | arrayOver ty => exact ao_keep hW h
    | castable C T => exact va_Nw.use rfl (va_Nw.warmC hW (va_Nw.of rfl h))
    | _ => cases g
theorem Stt.moved {w : WX} {u U : State} (hvm : u.vm.Alike U.vm) (hh : ∀ a : Nat, a < u.heap.size → ¬ A0 w a → U.heap[a]? = u.heap[a]?) (h : Stt w u) : Stt w U := fun i q hq => ⟨((h i q hq).1.kept hh).moved hvm, ((h i q hq).2.kept hh).moved hvm⟩
theorem Str.moved {w : WX} {u U : State} (hvm : u.vm.Alike U.vm) (hr : ∀ own k tx a, vk_R own k tx a u → vk_R own k tx a U) (hh : ∀ a : Nat, a < u.heap.size → ¬ A0 w a → U.heap[a]? = u.heap[a]?) (h : Str w u) : Str w U := ⟨hr _ _ _ _ h.1, (h.2.1.kept hh).moved hvm, (h.2.2.1.kept hh).moved hvm, (h.2.2.2.kept hh).moved hvm⟩
theorem Fix.moved {w : WX} {u U : State} (hvm : u.vm.Alike U.vm) (hr : ∀ own k tx a, vk_R own k tx a u → vk_R own k tx a U) (hz : u.heap.size ≤ U.heap.size) (hh : ∀ a : Nat, a < u.heap.size → ¬ A0 w a → U.heap[a]? = u.heap[a]?) (h : Fix w u) : Fix w U := ⟨Nat.le_trans h.1 hz, va_K.moved hvm h.2.1, h.2.2.1.moved hvm hh, h.2.2.2.1, h.2.2.2.2.moved hvm hr hh⟩
theorem PcW.blind (w : WX) (avs : List Value) (M : Mem) : FrameBlind (PcW w avs M) := fun a U g mk h => ⟨h.1, h.2.1, h.2.2.moved (u := U) (U := U.calling g mk a) (Vm.Alike.refl U.vm) (fun _ _ _ _ h => vk_R.same rfl h) (Nat.le_refl _) (fun _ _ _ => rfl)⟩
/-- a method of ours: its code, its class's state, how many parameters -/
def MD (y : MethodName) (cc : ByteArray) (nL : Nat) (ret : Option FieldType) (n : Nat) : Prop := Cond.code y cc nL ret ∈ UW ∧ Cond.initialized y.cls ∈ UW ∧ y.cls ≠ "java/lang/invoke/MethodHandle" ∧ y.cls ≠ "java/lang/invoke/VarHandle" ∧ (parseMethodDescriptor y.desc).map (fun d => d.parameters.length) = some n
def evI : Int32 → Option Value := fun v => some (.int v)
def evJ : Int64 → Option Value := fun v => some (.long v)
def evR : Option Nat → Option Value := fun v => some (va_rf v)
def evIM : Int32 × Mem → Option Value := fun t => some (.int t.1)
def evJM : Int64 × Mem → Option Value := fun t => some (.long t.1)
def emM {ρ : Type} : ρ × Mem → Mem := fun t => t.2
def evU : Mem → Option Value := fun _ => none
def emU : Mem → Mem := fun t => t
def emC {ρ : Type} (M : Mem) : ρ → Mem := fun _ => M
section RC
variable {τ τ' : Type} {own : String} {nL fr lo : Nat} {ret : Option FieldType} {w : WX} {x : MX} {Q : τ → State → Prop} {pc : Nat} {L L' : List (Nat × Value)} {M : Mem} {f : Option τ} {ev' : τ' → Option Value} {em' : τ' → Mem}
theorem r_wt {st : List Value} (h : WT w M → C x w Q nL pc L st M f) : C x w Q nL pc L st M f := fun t ht H locs ls hH hS hl => h hH.2.2 t ht H locs ls hH hS hl
theorem ct_of {l : Launch} {y : MethodName} {cc : ByteArray} {avs : List Value} {ev : τ → Option Value} {em : τ → Mem} (hy : plainName y.cls = true) (hargs : (lg_sl avs).length ≤ nL) (body : ∀ x, xl x = l → Ok y.cls nL ret fr lo w x → (xc x).code = cc → xk x = 0 ∧ xn x = 0 → C x w (Qn x w ev em) nL 0 (lv_args 0 avs) [] M f) : Ct l w y cc nL ret fr lo ev em avs M f := by
  intro t ht
  refine Met.ofW (cc := cc) (maxL := nL) (ret := ret) hy rfl ?_
  intro p e s m args below meth c s₁ B hml hv
  obtain ⟨rfl, hH, hF⟩ := hv
  have hts := atoms_spec (ws := Cond.code y cc nL ret :: UW) B.pre
  have hx : Ok y.cls nL ret fr lo w (p, l, e, rmv fr lo, s, m, avs.toArray, below, meth, c, 0, 0) := ⟨B.exec, findClass_of_methodNamed B.named, fun q hq => hts q (List.mem_cons_of_mem _ hq), hF, B.returns, B.notSynchronized, ⟨rfl, rfl, Nat.le_refl _, Nat.le_refl _⟩, hml⟩
  have K := body _ rfl hx B.bytes ⟨rfl, rfl⟩ t ht s.heap [] _ hH va_S.rf (lv_entry avs hargs)
  rw [lg_entry_eq]
  exact K
theorem preU {avs : List Value} {H : Heap} {locs : List Loc} (hx : Ok own nL ret fr lo w x) (hH : Hol w M H) (hS : va_S (A0 w) (xs_ x).heap H locs) : ∀ U : State, U.heap = H → (xs_ x).WarmedH U.vm → PcW w avs M avs.toArray U := by
  intro U hU hW
  refine ⟨rfl, by rw [hU]; exact hH, hx.2.2.2.1.moved hW.alike (fun _ _ _ _ h => vk_R.warm hW h) (by rw [hU]; exact hS.1) (fun a h1 h2 => by rw [hU]; exact hS.2.1 a h1 h2)⟩
theorem q_run {avs st0 rest : List Value} {g : Option τ'} {K : τ' → Option τ} (hx : Ok own nL ret fr lo w x) (stf : τ' → List Value) (mf : τ' → Mem) (hsf : ∀ t', (ev' t').toList ++ rest = stf t' ∧ em' t' = mf t') (hrun : ∀ t', g = some t' → ∀ (H : Heap) (locs : List Loc) (ls : Array Slot), Hol w M H → va_S (A0 w) (xs_ x).heap H locs → lv_has ls nL L → va_Run (xp x) (xl x) (xe x) (xR x) (xs_ x) (xm x) (xa x) (xb x) (xt x) (xc x) H locs (xk x) (xn x) 0 0 (F0 (xm x) pc ls st0) rest (QcW w (ev' t') (em' t') avs.toArray) (A0 w)) (kk : ∀ t', g = some t' → C x w Q nL (pc + 3) L (stf t') (mf t') (K t')) : C x w Q nL pc L st0 M (g.bind K) := by
  intro t ht H locs ls hH hS hl
  cases hg : g with
  | none => rw [hg] at ht; cases ht
  | some t' =>
    rw [hg] at ht
    intro T hT X
    obtain ⟨v, st₀, t1, T', Lc, h0, X', hL, e1, e2, ⟨hv, hH1, hF1⟩, st⟩ := hrun t' hg H locs ls hH hS hl T hT X
    cases hv
    have hz : H.size ≤ T'.heap.size := by rw [e1, ← h0]; exact hF1.1
    have hk : ∀ q : Nat, q < H.size → ¬ A0 w q → T'.heap[q]? = H[q]? := fun q h1 h2 => by rw [e1, ← h0]; exact hF1.2 q (by rw [h0]; exact h1) h2
    have kk1 := kk t' hg t ht T'.heap (locs ++ Lc) ls (by rw [e1, ← (hsf t').2]; exact hH1) ⟨Nat.le_trans hS.1 hz, fun q h1 h2 => by rw [hk q (Nat.lt_of_lt_of_le h1 hS.1) h2]; exact hS.2.1 q h1 h2, fun q hq => by
      rcases List.mem_append.mp hq with h | h
      · exact hS.2.2 q h
      · exact hL q h⟩ hl
    rw [← (hsf t').1] at kk1
    obtain ⟨t2, a1, b1⟩ := kk1 T' rfl X'
    exact ⟨t2, st t2 a1, b1⟩
theorem mkB {idx n fr' lo' nL' : Nat} {y : MethodName} {cc' : ByteArray} {ret' : Option FieldType} (hx : Ok own nL ret fr lo w x) (hmd : MD y cc' nL' ret' n) (hlk : Cond.methodLink own idx y ∈ UW) (hR : fr' + 1 ≤ fr ∧ 8 + (nL' + 11) + lo' ≤ lo) : CallB (xR x) (xs_ x) (xa x) own idx y cc' nL' ret' (Cond.code y cc' nL' ret' :: UW) (rmv fr' lo') 0 0 n := by
  have hU := hx.2.2.1
  obtain ⟨h1, h2, h3, h4, h5⟩ := hmd
  refine ⟨rfl, rfl, ?_, ?_, ?_, List.mem_cons_self, hU _ h1, hU _ h2, ⟨h3, h4⟩, ?_, hU _ hlk⟩
  · rw [hx.2.2.2.2.2.2.1.1]; exact hR.1
  · rw [hx.2.2.2.2.2.2.1.2.1]; exact hR.2
  · intro q hq a' U hW
    rcases List.mem_cons.mp hq with rfl | hq
    · exact uw_keep hW h1 (hU _ h1)
    · exact uw_keep hW hq (hU _ hq)
  · intro sig hs
    rw [hs] at h5
    exact (Option.some.inj h5).symm
theorem mkN {idx n fr' lo' nL' : Nat} {y : MethodName} {host : String} {cc' : ByteArray} {ret' : Option FieldType} (hx : Ok own nL ret fr lo w x) (hmd : MD y cc' nL' ret' n) (hlk : Cond.methodLinkNest own idx y host ∈ UW) (hR : fr' + 1 ≤ fr ∧ 8 + (nL' + 11) + lo' ≤ lo) : va_CN (xR x) (xs_ x) (xa x) own idx y host cc' nL' ret' (Cond.code y cc' nL' ret' :: UW) (rmv fr' lo') 0 0 n := by
  have hU := hx.2.2.1
  obtain ⟨h1, h2, h3, h4, h5⟩ := hmd
  refine ⟨⟨rfl, rfl, ?_, ?_, ?_, List.mem_cons_self⟩, hU _ h1, hU _ h2, ⟨h3, h4⟩, ?_, hU _ hlk⟩
  · rw [hx.2.2.2.2.2.2.1.1]; exact hR.1
  · rw [hx.2.2.2.2.2.2.1.2.1]; exact hR.2
  · intro q hq a' U hW
    rcases List.mem_cons.mp hq with rfl | hq
    · exact uw_keep hW h1 (hU _ h1)
    · exact uw_keep hW hq (hU _ hq)
  · intro sig hs
    rw [hs] at h5
    exact (Option.some.inj h5).symm
theorem hfz (hx : Ok own nL ret fr lo w x) : xk x + 0 ≤ (xR x).cells ∧ xn x + 0 ≤ (xR x).slots := ⟨hx.2.2.2.2.2.2.1.2.2.1, hx.2.2.2.2.2.2.1.2.2.2⟩
theorem q_callV {idx n fr' lo' nL' b ci nn : Nat} {y : MethodName} {cc' : ByteArray} {ret' : Option FieldType} {As rest st0 : List Value} {g : Option τ'} {K : τ' → Option τ} (hx : Ok own nL ret fr lo w x) (hdg : decode (xc x).code pc = .ok (.invokevirtual idx, 3)) (hmd : MD y cc' nL' ret' n) (hin : Cond.instanceMethod y ∈ UW) (hse : Cond.selects y.cls y y ∈ UW) (hlk : Cond.methodLink own idx y ∈ UW) (hct : Ct (xl x) w y cc' nL' ret' fr' lo' ev' em' (.ref b :: As) M g) (hb : Wat w b ci nn) (hcl : (cls[ci]?).map (fun q => q.1) = some y.cls) (hc : ci < 20) (hR : fr' + 1 ≤ fr ∧ 8 + (nL' + 11) + lo' ≤ lo) (hst : st0 = As.reverse ++ .ref b :: rest) (hn : As.length = n) (hcat : (rest.map fun v => v.category).sum ≤ 8) (stf : τ' → List Value) (mf : τ' → Mem) (hsf : ∀ t', (ev' t').toList ++ rest = stf t' ∧ em' t' = mf t') (kk : ∀ t', g = some t' → C x w Q nL (pc + 3) L (stf t') (mf t') (K t')) : C x w Q nL pc L st0 M (g.bind K) := by
  refine q_run (avs := .ref b :: As) hx stf mf hsf (fun t' hg H locs ls hH hS hl => ?_) kk
  have hcell : ∃ cellB : Cell, H[b]? = some cellB ∧ cellB.vm.isStatics = false ∧ (xs_ x).vm.findClass y.cls = some cellB.cls := by
    obtain ⟨q0, hq⟩ := wcl_get (M := M) hb.1
    rw [hb.obj hc] at hq
    cases hcc : cls[ci]? with
    | none => rw [hcc] at hcl; cases hcl
    | some r =>
      rw [hcc] at hcl
      have e : r.1 = y.cls := Option.some.inj hcl
      obtain ⟨cell, g1, g2, g3⟩ := va_recv hx.2.2.2.1.2.1 hH.1 hcc hq
      exact ⟨cell, g1, g2, by rw [← e]; exact g3⟩
  exact va_runV (nL := nL) ⟨hx.1, rfl, hx.2.2.2.2.2.2.2, hx.2.1, hx.2.2.1⟩ (hct t' hg) ⟨mkB hx hmd hlk hR, hx.2.2.1 _ hin, hx.2.2.1 _ hse⟩ ⟨PcW.blind w _ M, hcell, preU hx hH hS⟩ rfl hn hl.1 hst (lv_room hcat) hdg (hfz hx)
theorem r_callVI {idx n fr' lo' nL' b ci nn : Nat} {y : MethodName} {cc' : ByteArray} {ret' : Option FieldType} {As rest st0 : List Value} {g : Option (Int32 × Mem)} {K : Int32 → Mem → Option τ} {pc' : Nat} (hx : Ok own nL ret fr lo w x) (hdg : decode (xc x).code pc = .ok (.invokevirtual idx, 3)) (hmd : MD y cc' nL' ret' n) (hin : Cond.instanceMethod y ∈ UW) (hse : Cond.selects y.cls y y ∈ UW) (hlk : Cond.methodLink own idx y ∈ UW) (hct : Ct (xl x) w y cc' nL' ret' fr' lo' evIM emM (.ref b :: As) M g) (hb : Wat w b ci nn) (hcl : (cls[ci]?).map (fun q => q.1) = some y.cls) (hc : ci < 20) (hR : fr' + 1 ≤ fr ∧ 8 + (nL' + 11) + lo' ≤ lo) (hst : st0 = As.reverse ++ .ref b :: rest) (hn : As.length = n) (hcat : (rest.map fun v => v.category).sum ≤ 8) (stf : Int32 → List Value) (hsf : ∀ r, .int r :: rest = stf r) (hp : pc + 3 = pc') (kk : ∀ r M', C x w Q nL pc' L (stf r) M' (K r M')) : C x w Q nL pc L st0 M (bdM g K) := by
  subst hp
  exact q_callV hx hdg hmd hin hse hlk hct hb hcl hc hR hst hn hcat (fun q => stf q.1) (fun q => q.2) (fun q => ⟨hsf q.1, rfl⟩) (fun q _ => kk q.1 q.2)
theorem r_callVJ {idx n fr' lo' nL' b ci nn : Nat} {y : MethodName} {cc' : ByteArray} {ret' : Option FieldType} {As rest st0 : List Value} {g : Option (Int64 × Mem)} {K : Int64 → Mem → Option τ} {pc' : Nat} (hx : Ok own nL ret fr lo w x) (hdg : decode (xc x).code pc = .ok (.invokevirtual idx, 3)) (hmd : MD y cc' nL' ret' n) (hin : Cond.instanceMethod y ∈ UW) (hse : Cond.selects y.cls y y ∈ UW) (hlk : Cond.methodLink own idx y ∈ UW) (hct : Ct (xl x) w y cc' nL' ret' fr' lo' evJM emM (.ref b :: As) M g) (hb : Wat w b ci nn) (hcl : (cls[ci]?).map (fun q => q.1) = some y.cls) (hc : ci < 20) (hR : fr' + 1 ≤ fr ∧ 8 + (nL' + 11) + lo' ≤ lo) (hst : st0 = As.reverse ++ .ref b :: rest) (hn : As.length = n) (hcat : (rest.map fun v => v.category).sum ≤ 8) (stf : Int64 → List Value) (hsf : ∀ r, .long r :: rest = stf r) (hp : pc + 3 = pc') (kk : ∀ r M', C x w Q nL pc' L (stf r) M' (K r M')) : C x w Q nL pc L st0 M (bdM g K) := by
  subst hp
  exact q_callV hx hdg hmd hin hse hlk hct hb hcl hc hR hst hn hcat (fun q => stf q.1) (fun q => q.2) (fun q => ⟨hsf q.1, rfl⟩) (fun q _ => kk q.1 q.2)
theorem r_callVU {idx n fr' lo' nL' b ci nn : Nat} {y : MethodName} {cc' : ByteArray} {ret' : Option FieldType} {As rest st0 : List Value} {g : Option Mem} {K : Mem → Option τ} {pc' : Nat} (hx : Ok own nL ret fr lo w x) (hdg : decode (xc x).code pc = .ok (.invokevirtual idx, 3)) (hmd : MD y cc' nL' ret' n) (hin : Cond.instanceMethod y ∈ UW) (hse : Cond.selects y.cls y y ∈ UW) (hlk : Cond.methodLink own idx y ∈ UW) (hct : Ct (xl x) w y cc' nL' ret' fr' lo' evU emU (.ref b :: As) M g) (hb : Wat w b ci nn) (hcl : (cls[ci]?).map (fun q => q.1) = some y.cls) (hc : ci < 20) (hR : fr' + 1 ≤ fr ∧ 8 + (nL' + 11) + lo' ≤ lo) (hst : st0 = As.reverse ++ .ref b :: rest) (hn : As.length = n) (hcat : (rest.map fun v => v.category).sum ≤ 8) (hp : pc + 3 = pc') (kk : ∀ M', C x w Q nL pc' L rest M' (K M')) : C x w Q nL pc L st0 M (g.bind K) := by
  subst hp
  exact q_callV hx hdg hmd hin hse hlk hct hb hcl hc hR hst hn hcat (fun _ => rest) (fun q => q) (fun _ => ⟨rfl, rfl⟩) (fun q _ => kk q)
theorem r_callV {idx n fr' lo' nL' b ci nn : Nat} {y : MethodName} {cc' : ByteArray} {ret' : Option FieldType} {As rest st0 : List Value} {g : Option τ'} {K : τ' → Option τ} {pc' : Nat} (hx : Ok own nL ret fr lo w x) (hdg : decode (xc x).code pc = .ok (.invokevirtual idx, 3)) (hmd : MD y cc' nL' ret' n) (hin : Cond.instanceMethod y ∈ UW) (hse : Cond.selects y.cls y y ∈ UW) (hlk : Cond.methodLink own idx y ∈ UW) (hct : Ct (xl x) w y cc' nL' ret' fr' lo' ev' em' (.ref b :: As) M g) (hb : Wat w b ci nn) (hcl : (cls[ci]?).map (fun q => q.1) = some y.cls) (hc : ci < 20) (hR : fr' + 1 ≤ fr ∧ 8 + (nL' + 11) + lo' ≤ lo) (hst : st0 = As.reverse ++ .ref b :: rest) (hn : As.length = n) (hcat : (rest.map fun v => v.category).sum ≤ 8) (stf : τ' → List Value) (mf : τ' → Mem) (hsf : ∀ t', (ev' t').toList ++ rest = stf t' ∧ em' t' = mf t') (hp : pc + 3 = pc') (kk : ∀ t', g = some t' → C x w Q nL pc' L (stf t') (mf t') (K t')) : C x w Q nL pc L st0 M (g.bind K) := by
  subst hp
  refine q_run (avs := .ref b :: As) hx stf mf hsf (fun t' hg H locs ls hH hS hl => ?_) kk
  have hcell : ∃ cellB : Cell, H[b]? = some cellB ∧ cellB.vm.isStatics = false ∧ (xs_ x).vm.findClass y.cls = some cellB.cls := by
    obtain ⟨q0, hq⟩ := wcl_get (M := M) hb.1
    rw [hb.obj hc] at hq
    cases hcc : cls[ci]? with
    | none => rw [hcc] at hcl; cases hcl
    | some r =>
      rw [hcc] at hcl
      have e : r.1 = y.cls := Option.some.inj hcl
      obtain ⟨cell, g1, g2, g3⟩ := va_recv hx.2.2.2.1.2.1 hH.1 hcc hq
      exact ⟨cell, g1, g2, by rw [← e]; exact g3⟩
  exact va_runV (nL := nL) ⟨hx.1, rfl, hx.2.2.2.2.2.2.2, hx.2.1, hx.2.2.1⟩ (hct t' hg) ⟨mkB hx hmd hlk hR, hx.2.2.1 _ hin, hx.2.2.1 _ hse⟩ ⟨PcW.blind w _ M, hcell, preU hx hH hS⟩ rfl hn hl.1 hst (lv_room hcat) hdg (hfz hx)
theorem q_callS {idx n fr' lo' nL' : Nat} {y : MethodName} {cc' : ByteArray} {ret' : Option FieldType} {As rest st0 : List Value} {g : Option τ'} {K : τ' → Option τ} (hx : Ok own nL ret fr lo w x) (hdg : decode (xc x).code pc = .ok (.invokestatic idx, 3)) (hmd : MD y cc' nL' ret' n) (hin : Cond.static y ∈ UW) (hlk : Cond.methodLink own idx y ∈ UW) (hct : Ct (xl x) w y cc' nL' ret' fr' lo' ev' em' As M g) (hR : fr' + 1 ≤ fr ∧ 8 + (nL' + 11) + lo' ≤ lo) (hst : st0 = As.reverse ++ rest) (hn : As.length = n) (hcat : (rest.map fun v => v.category).sum ≤ 8) (stf : τ' → List Value) (mf : τ' → Mem) (hsf : ∀ t', (ev' t').toList ++ rest = stf t' ∧ em' t' = mf t') (kk : ∀ t', g = some t' → C x w Q nL (pc + 3) L (stf t') (mf t') (K t')) : C x w Q nL pc L st0 M (g.bind K) := by
  refine q_run (avs := As) hx stf mf hsf (fun t' hg H locs ls hH hS hl => ?_) kk
  exact va_runS (nL := nL) ⟨hx.1, rfl, hx.2.2.2.2.2.2.2, hx.2.1, hx.2.2.1⟩ (hct t' hg) ⟨mkB hx hmd hlk hR, hx.2.2.1 _ hin⟩ ⟨PcW.blind w _ M, preU hx hH hS⟩ rfl hn hl.1 hst (lv_room hcat) hdg (hfz hx)
theorem r_callSI {idx n fr' lo' nL' : Nat} {y : MethodName} {cc' : ByteArray} {ret' : Option FieldType} {As rest st0 : List Value} {g : Option (Int32 × Mem)} {K : Int32 → Mem → Option τ} {pc' : Nat} (hx : Ok own nL ret fr lo w x) (hdg : decode (xc x).code pc = .ok (.invokestatic idx, 3)) (hmd : MD y cc' nL' ret' n) (hin : Cond.static y ∈ UW) (hlk : Cond.methodLink own idx y ∈ UW) (hct : Ct (xl x) w y cc' nL' ret' fr' lo' evIM emM As M g) (hR : fr' + 1 ≤ fr ∧ 8 + (nL' + 11) + lo' ≤ lo) (hst : st0 = As.reverse ++ rest) (hn : As.length = n) (hcat : (rest.map fun v => v.category).sum ≤ 8) (stf : Int32 → List Value) (hsf : ∀ r, .int r :: rest = stf r) (hp : pc + 3 = pc') (kk : ∀ r M', C x w Q nL pc' L (stf r) M' (K r M')) : C x w Q nL pc L st0 M (bdM g K) := by
  subst hp
  exact q_callS hx hdg hmd hin hlk hct hR hst hn hcat (fun q => stf q.1) (fun q => q.2) (fun q => ⟨hsf q.1, rfl⟩) (fun q _ => kk q.1 q.2)
theorem r_callSJ {idx n fr' lo' nL' : Nat} {y : MethodName} {cc' : ByteArray} {ret' : Option FieldType} {As rest st0 : List Value} {g : Option (Int64 × Mem)} {K : Int64 → Mem → Option τ} {pc' : Nat} (hx : Ok own nL ret fr lo w x) (hdg : decode (xc x).code pc = .ok (.invokestatic idx, 3)) (hmd : MD y cc' nL' ret' n) (hin : Cond.static y ∈ UW) (hlk : Cond.methodLink own idx y ∈ UW) (hct : Ct (xl x) w y cc' nL' ret' fr' lo' evJM emM As M g) (hR : fr' + 1 ≤ fr ∧ 8 + (nL' + 11) + lo' ≤ lo) (hst : st0 = As.reverse ++ rest) (hn : As.length = n) (hcat : (rest.map fun v => v.category).sum ≤ 8) (stf : Int64 → List Value) (hsf : ∀ r, .long r :: rest = stf r) (hp : pc + 3 = pc') (kk : ∀ r M', C x w Q nL pc' L (stf r) M' (K r M')) : C x w Q nL pc L st0 M (bdM g K) := by
  subst hp
  exact q_callS hx hdg hmd hin hlk hct hR hst hn hcat (fun q => stf q.1) (fun q => q.2) (fun q => ⟨hsf q.1, rfl⟩) (fun q _ => kk q.1 q.2)
theorem r_callSU {idx n fr' lo' nL' : Nat} {y : MethodName} {cc' : ByteArray} {ret' : Option FieldType} {As rest st0 : List Value} {g : Option Mem} {K : Mem → Option τ} {pc' : Nat} (hx : Ok own nL ret fr lo w x) (hdg : decode (xc x).code pc = .ok (.invokestatic idx, 3)) (hmd : MD y cc' nL' ret' n) (hin : Cond.static y ∈ UW) (hlk : Cond.methodLink own idx y ∈ UW) (hct : Ct (xl x) w y cc' nL' ret' fr' lo' evU emU As M g) (hR : fr' + 1 ≤ fr ∧ 8 + (nL' + 11) + lo' ≤ lo) (hst : st0 = As.reverse ++ rest) (hn : As.length = n) (hcat : (rest.map fun v => v.category).sum ≤ 8) (hp : pc + 3 = pc') (kk : ∀ M', C x w Q nL pc' L rest M' (K M')) : C x w Q nL pc L st0 M (g.bind K) := by
  subst hp
  exact q_callS hx hdg hmd hin hlk hct hR hst hn hcat (fun _ => rest) (fun q => q) (fun _ => ⟨rfl, rfl⟩) (fun q _ => kk q)
theorem r_callS {idx n fr' lo' nL' : Nat} {y : MethodName} {cc' : ByteArray} {ret' : Option FieldType} {As rest st0 : List Value} {g : Option τ'} {K : τ' → Option τ} {pc' : Nat} (hx : Ok own nL ret fr lo w x) (hdg : decode (xc x).code pc = .ok (.invokestatic idx, 3)) (hmd : MD y cc' nL' ret' n) (hin : Cond.static y ∈ UW) (hlk : Cond.methodLink own idx y ∈ UW) (hct : Ct (xl x) w y cc' nL' ret' fr' lo' ev' em' As M g) (hR : fr' + 1 ≤ fr ∧ 8 + (nL' + 11) + lo' ≤ lo) (hst : st0 = As.reverse ++ rest) (hn : As.length = n) (hcat : (rest.map fun v => v.category).sum ≤ 8) (stf : τ' → List Value) (mf : τ' → Mem) (hsf : ∀ t', (ev' t').toList ++ rest = stf t' ∧ em' t' = mf t') (hp : pc + 3 = pc') (kk : ∀ t', g = some t' → C x w Q nL pc' L (stf t') (mf t') (K t')) : C x w Q nL pc L st0 M (g.bind K) := by
  subst hp
  refine q_run (avs := As) hx stf mf hsf (fun t' hg H locs ls hH hS hl => ?_) kk
  exact va_runS (nL := nL) ⟨hx.1, rfl, hx.2.2.2.2.2.2.2, hx.2.1, hx.2.2.1⟩ (hct t' hg) ⟨mkB hx hmd hlk hR, hx.2.2.1 _ hin⟩ ⟨PcW.blind w _ M, preU hx hH hS⟩ rfl hn hl.1 hst (lv_room hcat) hdg (hfz hx)
theorem q_callSN {idx n fr' lo' nL' : Nat} {y : MethodName} {host : String} {cc' : ByteArray} {ret' : Option FieldType} {As rest st0 : List Value} {g : Option τ'} {K : τ' → Option τ} (hx : Ok own nL ret fr lo w x) (hdg : decode (xc x).code pc = .ok (.invokestatic idx, 3)) (hmd : MD y cc' nL' ret' n) (hin : Cond.static y ∈ UW) (hlk : Cond.methodLinkNest own idx y host ∈ UW) (hct : Ct (xl x) w y cc' nL' ret' fr' lo' ev' em' As M g) (hR : fr' + 1 ≤ fr ∧ 8 + (nL' + 11) + lo' ≤ lo) (hst : st0 = As.reverse ++ rest) (hn : As.length = n) (hcat : (rest.map fun v => v.category).sum ≤ 8) (stf : τ' → List Value) (mf : τ' → Mem) (hsf : ∀ t', (ev' t').toList ++ rest = stf t' ∧ em' t' = mf t') (kk : ∀ t', g = some t' → C x w Q nL (pc + 3) L (stf t') (mf t') (K t')) : C x w Q nL pc L st0 M (g.bind K) := by
  refine q_run (avs := As) hx stf mf hsf (fun t' hg H locs ls hH hS hl => ?_) kk
  exact va_runSN (nL := nL) ⟨hx.1, rfl, hx.2.2.2.2.2.2.2, hx.2.1, hx.2.2.1⟩ (hct t' hg) ⟨mkN hx hmd hlk hR, hx.2.2.1 _ hin, trivial⟩ ⟨PcW.blind w _ M, preU hx hH hS⟩ rfl hn hl.1 hst (lv_room hcat) hdg (hfz hx)
theorem r_callSNI {idx n fr' lo' nL' : Nat} {y : MethodName} {host : String} {cc' : ByteArray} {ret' : Option FieldType} {As rest st0 : List Value} {g : Option (Int32 × Mem)} {K : Int32 → Mem → Option τ} {pc' : Nat} (hx : Ok own nL ret fr lo w x) (hdg : decode (xc x).code pc = .ok (.invokestatic idx, 3)) (hmd : MD y cc' nL' ret' n) (hin : Cond.static y ∈ UW) (hlk : Cond.methodLinkNest own idx y host ∈ UW) (hct : Ct (xl x) w y cc' nL' ret' fr' lo' evIM emM As M g) (hR : fr' + 1 ≤ fr ∧ 8 + (nL' + 11) + lo' ≤ lo) (hst : st0 = As.reverse ++ rest) (hn : As.length = n) (hcat : (rest.map fun v => v.category).sum ≤ 8) (stf : Int32 → List Value) (hsf : ∀ r, .int r :: rest = stf r) (hp : pc + 3 = pc') (kk : ∀ r M', C x w Q nL pc' L (stf r) M' (K r M')) : C x w Q nL pc L st0 M (bdM g K) := by
  subst hp
  exact q_callSN hx hdg hmd hin hlk hct hR hst hn hcat (fun q => stf q.1) (fun q => q.2) (fun q => ⟨hsf q.1, rfl⟩) (fun q _ => kk q.1 q.2)
theorem r_callSNJ {idx n fr' lo' nL' : Nat} {y : MethodName} {host : String} {cc' : ByteArray} {ret' : Option FieldType} {As rest st0 : List Value} {g : Option (Int64 × Mem)} {K : Int64 → Mem → Option τ} {pc' : Nat} (hx : Ok own nL ret fr lo w x) (hdg : decode (xc x).code pc = .ok (.invokestatic idx, 3)) (hmd : MD y cc' nL' ret' n) (hin : Cond.static y ∈ UW) (hlk : Cond.methodLinkNest own idx y host ∈ UW) (hct : Ct (xl x) w y cc' nL' ret' fr' lo' evJM emM As M g) (hR : fr' + 1 ≤ fr ∧ 8 + (nL' + 11) + lo' ≤ lo) (hst : st0 = As.reverse ++ rest) (hn : As.length = n) (hcat : (rest.map fun v => v.category).sum ≤ 8) (stf : Int64 → List Value) (hsf : ∀ r, .long r :: rest = stf r) (hp : pc + 3 = pc') (kk : ∀ r M', C x w Q nL pc' L (stf r) M' (K r M')) : C x w Q nL pc L st0 M (bdM g K) := by
  subst hp
  exact q_callSN hx hdg hmd hin hlk hct hR hst hn hcat (fun q => stf q.1) (fun q => q.2) (fun q => ⟨hsf q.1, rfl⟩) (fun q _ => kk q.1 q.2)
theorem r_callSNU {idx n fr' lo' nL' : Nat} {y : MethodName} {host : String} {cc' : ByteArray} {ret' : Option FieldType} {As rest st0 : List Value} {g : Option Mem} {K : Mem → Option τ} {pc' : Nat} (hx : Ok own nL ret fr lo w x) (hdg : decode (xc x).code pc = .ok (.invokestatic idx, 3)) (hmd : MD y cc' nL' ret' n) (hin : Cond.static y ∈ UW) (hlk : Cond.methodLinkNest own idx y host ∈ UW) (hct : Ct (xl x) w y cc' nL' ret' fr' lo' evU emU As M g) (hR : fr' + 1 ≤ fr ∧ 8 + (nL' + 11) + lo' ≤ lo) (hst : st0 = As.reverse ++ rest) (hn : As.length = n) (hcat : (rest.map fun v => v.category).sum ≤ 8) (hp : pc + 3 = pc') (kk : ∀ M', C x w Q nL pc' L rest M' (K M')) : C x w Q nL pc L st0 M (g.bind K) := by
  subst hp
  exact q_callSN hx hdg hmd hin hlk hct hR hst hn hcat (fun _ => rest) (fun q => q) (fun _ => ⟨rfl, rfl⟩) (fun q _ => kk q)
theorem r_callSN {idx n fr' lo' nL' : Nat} {y : MethodName} {host : String} {cc' : ByteArray} {ret' : Option FieldType} {As rest st0 : List Value} {g : Option τ'} {K : τ' → Option τ} {pc' : Nat} (hx : Ok own nL ret fr lo w x) (hdg : decode (xc x).code pc = .ok (.invokestatic idx, 3)) (hmd : MD y cc' nL' ret' n) (hin : Cond.static y ∈ UW) (hlk : Cond.methodLinkNest own idx y host ∈ UW) (hct : Ct (xl x) w y cc' nL' ret' fr' lo' ev' em' As M g) (hR : fr' + 1 ≤ fr ∧ 8 + (nL' + 11) + lo' ≤ lo) (hst : st0 = As.reverse ++ rest) (hn : As.length = n) (hcat : (rest.map fun v => v.category).sum ≤ 8) (stf : τ' → List Value) (mf : τ' → Mem) (hsf : ∀ t', (ev' t').toList ++ rest = stf t' ∧ em' t' = mf t') (hp : pc + 3 = pc') (kk : ∀ t', g = some t' → C x w Q nL pc' L (stf t') (mf t') (K t')) : C x w Q nL pc L st0 M (g.bind K) := by
  subst hp
  refine q_run (avs := As) hx stf mf hsf (fun t' hg H locs ls hH hS hl => ?_) kk
  exact va_runSN (nL := nL) ⟨hx.1, rfl, hx.2.2.2.2.2.2.2, hx.2.1, hx.2.2.1⟩ (hct t' hg) ⟨mkN hx hmd hlk hR, hx.2.2.1 _ hin, trivial⟩ ⟨PcW.blind w _ M, preU hx hH hS⟩ rfl hn hl.1 hst (lv_room hcat) hdg (hfz hx)
end RC
section RJ
variable {τ : Type} {nL : Nat} {w : WX} {x : MX} {Q : τ → State → Prop} {pc : Nat} {L : List (Nat × Value)} {M : Mem}
theorem r_wl0 {step : (Option τ) → Option τ} (Lf : List (Nat × Value)) (sf : List Value) (Mf : Mem) (hs : ∀ (rec : Option τ), (C x w Q nL pc (Lf) (sf) (Mf) (rec)) → C x w Q nL pc (Lf) (sf) (Mf) (step rec)) (n : Nat) : C x w Q nL pc (Lf) (sf) (Mf) (wl0 step n) := by
  induction n with
  | zero => intro t ht; cases ht
  | succ n ih => exact hs _ ih
theorem r_jn0 {k : Option τ} {b : (Option τ) → Option τ} {st : List Value} (pj : Nat) (Lf : List (Nat × Value)) (sf : List Value) (Mf : Mem) (hk : C x w Q nL pj (Lf) (sf) (Mf) (k)) (hb : ∀ j : Option τ, (C x w Q nL pj (Lf) (sf) (Mf) (j)) → C x w Q nL pc L st M (b j)) : C x w Q nL pc L st M (jn0 k b) := hb k hk
theorem r_wl1 {Ty0 : Type} {step : Ty0 → (Ty0 → Option τ) → Option τ} (Lf : Ty0 → List (Nat × Value)) (sf : Ty0 → List Value) (Mf : Ty0 → Mem) (hs : ∀ a0 (rec : Ty0 → Option τ), (∀ b0, C x w Q nL pc (Lf b0) (sf b0) (Mf b0) (rec b0)) → C x w Q nL pc (Lf a0) (sf a0) (Mf a0) (step a0 rec)) (n : Nat) : ∀ a0, C x w Q nL pc (Lf a0) (sf a0) (Mf a0) (wl1 step n a0) := by
  induction n with
  | zero => intro a0 t ht; cases ht
  | succ n ih => intro a0; exact hs _ _ ih
theorem r_jn1 {Ty0 : Type} {k : Ty0 → Option τ} {b : (Ty0 → Option τ) → Option τ} {st : List Value} (pj : Nat) (Lf : Ty0 → List (Nat × Value)) (sf : Ty0 → List Value) (Mf : Ty0 → Mem) (hk : ∀ a0, C x w Q nL pj (Lf a0) (sf a0) (Mf a0) (k a0)) (hb : ∀ j : Ty0 → Option τ, (∀ a0, C x w Q nL pj (Lf a0) (sf a0) (Mf a0) (j a0)) → C x w Q nL pc L st M (b j)) : C x w Q nL pc L st M (jn1 k b) := hb k hk
theorem r_wl2 {Ty0 Ty1 : Type} {step : Ty0 → Ty1 → (Ty0 → Ty1 → Option τ) → Option τ} (Lf : Ty0 → Ty1 → List (Nat × Value)) (sf : Ty0 → Ty1 → List Value) (Mf : Ty0 → Ty1 → Mem) (hs : ∀ a0 a1 (rec : Ty0 → Ty1 → Option τ), (∀ b0 b1, C x w Q nL pc (Lf b0 b1) (sf b0 b1) (Mf b0 b1) (rec b0 b1)) → C x w Q nL pc (Lf a0 a1) (sf a0 a1) (Mf a0 a1) (step a0 a1 rec)) (n : Nat) : ∀ a0 a1, C x w Q nL pc (Lf a0 a1) (sf a0 a1) (Mf a0 a1) (wl2 step n a0 a1) := by
  induction n with
  | zero => intro a0 a1 t ht; cases ht
  | succ n ih => intro a0 a1; exact hs _ _ _ ih
theorem r_jn2 {Ty0 Ty1 : Type} {k : Ty0 → Ty1 → Option τ} {b : (Ty0 → Ty1 → Option τ) → Option τ} {st : List Value} (pj : Nat) (Lf : Ty0 → Ty1 → List (Nat × Value)) (sf : Ty0 → Ty1 → List Value) (Mf : Ty0 → Ty1 → Mem) (hk : ∀ a0 a1, C x w Q nL pj (Lf a0 a1) (sf a0 a1) (Mf a0 a1) (k a0 a1)) (hb : ∀ j : Ty0 → Ty1 → Option τ, (∀ a0 a1, C x w Q nL pj (Lf a0 a1) (sf a0 a1) (Mf a0 a1) (j a0 a1)) → C x w Q nL pc L st M (b j)) : C x w Q nL pc L st M (jn2 k b) := hb k hk
theorem r_wl3 {Ty0 Ty1 Ty2 : Type} {step : Ty0 → Ty1 → Ty2 → (Ty0 → Ty1 → Ty2 → Option τ) → Option τ} (Lf : Ty0 → Ty1 → Ty2 → List (Nat × Value)) (sf : Ty0 → Ty1 → Ty2 → List Value) (Mf : Ty0 → Ty1 → Ty2 → Mem) (hs : ∀ a0 a1 a2 (rec : Ty0 → Ty1 → Ty2 → Option τ), (∀ b0 b1 b2, C x w Q nL pc (Lf b0 b1 b2) (sf b0 b1 b2) (Mf b0 b1 b2) (rec b0 b1 b2)) → C x w Q nL pc (Lf a0 a1 a2) (sf a0 a1 a2) (Mf a0 a1 a2) (step a0 a1 a2 rec)) (n : Nat) : ∀ a0 a1 a2, C x w Q nL pc (Lf a0 a1 a2) (sf a0 a1 a2) (Mf a0 a1 a2) (wl3 step n a0 a1 a2) := by
  induction n with
  | zero => intro a0 a1 a2 t ht; cases ht
  | succ n ih => intro a0 a1 a2; exact hs _ _ _ _ ih
theorem r_jn3 {Ty0 Ty1 Ty2 : Type} {k : Ty0 → Ty1 → Ty2 → Option τ} {b : (Ty0 → Ty1 → Ty2 → Option τ) → Option τ} {st : List Value} (pj : Nat) (Lf : Ty0 → Ty1 → Ty2 → List (Nat × Value)) (sf : Ty0 → Ty1 → Ty2 → List Value) (Mf : Ty0 → Ty1 → Ty2 → Mem) (hk : ∀ a0 a1 a2, C x w Q nL pj (Lf a0 a1 a2) (sf a0 a1 a2) (Mf a0 a1 a2) (k a0 a1 a2)) (hb : ∀ j : Ty0 → Ty1 → Ty2 → Option τ, (∀ a0 a1 a2, C x w Q nL pj (Lf a0 a1 a2) (sf a0 a1 a2) (Mf a0 a1 a2) (j a0 a1 a2)) → C x w Q nL pc L st M (b j)) : C x w Q nL pc L st M (jn3 k b) := hb k hk
theorem r_wl4 {Ty0 Ty1 Ty2 Ty3 : Type} {step : Ty0 → Ty1 → Ty2 → Ty3 → (Ty0 → Ty1 → Ty2 → Ty3 → Option τ) → Option τ} (Lf : Ty0 → Ty1 → Ty2 → Ty3 → List (Nat × Value)) (sf : Ty0 → Ty1 → Ty2 → Ty3 → List Value) (Mf : Ty0 → Ty1 → Ty2 → Ty3 → Mem) (hs : ∀ a0 a1 a2 a3 (rec : Ty0 → Ty1 → Ty2 → Ty3 → Option τ), (∀ b0 b1 b2 b3, C x w Q nL pc (Lf b0 b1 b2 b3) (sf b0 b1 b2 b3) (Mf b0 b1 b2 b3) (rec b0 b1 b2 b3)) → C x w Q nL pc (Lf a0 a1 a2 a3) (sf a0 a1 a2 a3) (Mf a0 a1 a2 a3) (step a0 a1 a2 a3 rec)) (n : Nat) : ∀ a0 a1 a2 a3, C x w Q nL pc (Lf a0 a1 a2 a3) (sf a0 a1 a2 a3) (Mf a0 a1 a2 a3) (wl4 step n a0 a1 a2 a3) := by
  induction n with
  | zero => intro a0 a1 a2 a3 t ht; cases ht
  | succ n ih => intro a0 a1 a2 a3; exact hs _ _ _ _ _ ih
theorem r_jn4 {Ty0 Ty1 Ty2 Ty3 : Type} {k : Ty0 → Ty1 → Ty2 → Ty3 → Option τ} {b : (Ty0 → Ty1 → Ty2 → Ty3 → Option τ) → Option τ} {st : List Value} (pj : Nat) (Lf : Ty0 → Ty1 → Ty2 → Ty3 → List (Nat × Value)) (sf : Ty0 → Ty1 → Ty2 → Ty3 → List Value) (Mf : Ty0 → Ty1 → Ty2 → Ty3 → Mem) (hk : ∀ a0 a1 a2 a3, C x w Q nL pj (Lf a0 a1 a2 a3) (sf a0 a1 a2 a3) (Mf a0 a1 a2 a3) (k a0 a1 a2 a3)) (hb : ∀ j : Ty0 → Ty1 → Ty2 → Ty3 → Option τ, (∀ a0 a1 a2 a3, C x w Q nL pj (Lf a0 a1 a2 a3) (sf a0 a1 a2 a3) (Mf a0 a1 a2 a3) (j a0 a1 a2 a3)) → C x w Q nL pc L st M (b j)) : C x w Q nL pc L st M (jn4 k b) := hb k hk
theorem r_wl5 {Ty0 Ty1 Ty2 Ty3 Ty4 : Type} {step : Ty0 → Ty1 → Ty2 → Ty3 → Ty4 → (Ty0 → Ty1 → Ty2 → Ty3 → Ty4 → Option τ) → Option τ} (Lf : Ty0 → Ty1 → Ty2 → Ty3 → Ty4 → List (Nat × Value)) (sf : Ty0 → Ty1 → Ty2 → Ty3 → Ty4 → List Value) (Mf : Ty0 → Ty1 → Ty2 → Ty3 → Ty4 → Mem) (hs : ∀ a0 a1 a2 a3 a4 (rec : Ty0 → Ty1 → Ty2 → Ty3 → Ty4 → Option τ), (∀ b0 b1 b2 b3 b4, C x w Q nL pc (Lf b0 b1 b2 b3 b4) (sf b0 b1 b2 b3 b4) (Mf b0 b1 b2 b3 b4) (rec b0 b1 b2 b3 b4)) → C x w Q nL pc (Lf a0 a1 a2 a3 a4) (sf a0 a1 a2 a3 a4) (Mf a0 a1 a2 a3 a4) (step a0 a1 a2 a3 a4 rec)) (n : Nat) : ∀ a0 a1 a2 a3 a4, C x w Q nL pc (Lf a0 a1 a2 a3 a4) (sf a0 a1 a2 a3 a4) (Mf a0 a1 a2 a3 a4) (wl5 step n a0 a1 a2 a3 a4) := by
  induction n with
  | zero => intro a0 a1 a2 a3 a4 t ht; cases ht
  | succ n ih => intro a0 a1 a2 a3 a4; exact hs _ _ _ _ _ _ ih
theorem r_jn5 {Ty0 Ty1 Ty2 Ty3 Ty4 : Type} {k : Ty0 → Ty1 → Ty2 → Ty3 → Ty4 → Option τ} {b : (Ty0 → Ty1 → Ty2 → Ty3 → Ty4 → Option τ) → Option τ} {st : List Value} (pj : Nat) (Lf : Ty0 → Ty1 → Ty2 → Ty3 → Ty4 → List (Nat × Value)) (sf : Ty0 → Ty1 → Ty2 → Ty3 → Ty4 → List Value) (Mf : Ty0 → Ty1 → Ty2 → Ty3 → Ty4 → Mem) (hk : ∀ a0 a1 a2 a3 a4, C x w Q nL pj (Lf a0 a1 a2 a3 a4) (sf a0 a1 a2 a3 a4) (Mf a0 a1 a2 a3 a4) (k a0 a1 a2 a3 a4)) (hb : ∀ j : Ty0 → Ty1 → Ty2 → Ty3 → Ty4 → Option τ, (∀ a0 a1 a2 a3 a4, C x w Q nL pj (Lf a0 a1 a2 a3 a4) (sf a0 a1 a2 a3 a4) (Mf a0 a1 a2 a3 a4) (j a0 a1 a2 a3 a4)) → C x w Q nL pc L st M (b j)) : C x w Q nL pc L st M (jn5 k b) := hb k hk
theorem r_wl6 {Ty0 Ty1 Ty2 Ty3 Ty4 Ty5 : Type} {step : Ty0 → Ty1 → Ty2 → Ty3 → Ty4 → Ty5 → (Ty0 → Ty1 → Ty2 → Ty3 → Ty4 → Ty5 → Option τ) → Option τ} (Lf : Ty0 → Ty1 → Ty2 → Ty3 → Ty4 → Ty5 → List (Nat × Value)) (sf : Ty0 → Ty1 → Ty2 → Ty3 → Ty4 → Ty5 → List Value) (Mf : Ty0 → Ty1 → Ty2 → Ty3 → Ty4 → Ty5 → Mem) (hs : ∀ a0 a1 a2 a3 a4 a5 (rec : Ty0 → Ty1 → Ty2 → Ty3 → Ty4 → Ty5 → Option τ), (∀ b0 b1 b2 b3 b4 b5, C x w Q nL pc (Lf b0 b1 b2 b3 b4 b5) (sf b0 b1 b2 b3 b4 b5) (Mf b0 b1 b2 b3 b4 b5) (rec b0 b1 b2 b3 b4 b5)) → C x w Q nL pc (Lf a0 a1 a2 a3 a4 a5) (sf a0 a1 a2 a3 a4 a5) (Mf a0 a1 a2 a3 a4 a5) (step a0 a1 a2 a3 a4 a5 rec)) (n : Nat) : ∀ a0 a1 a2 a3 a4 a5, C x w Q nL pc (Lf a0 a1 a2 a3 a4 a5) (sf a0 a1 a2 a3 a4 a5) (Mf a0 a1 a2 a3 a4 a5) (wl6 step n a0 a1 a2 a3 a4 a5) := by
  induction n with
  | zero => intro a0 a1 a2 a3 a4 a5 t ht; cases ht
  | succ n ih => intro a0 a1 a2 a3 a4 a5; exact hs _ _ _ _ _ _ _ ih
theorem r_jn6 {Ty0 Ty1 Ty2 Ty3 Ty4 Ty5 : Type} {k : Ty0 → Ty1 → Ty2 → Ty3 → Ty4 → Ty5 → Option τ} {b : (Ty0 → Ty1 → Ty2 → Ty3 → Ty4 → Ty5 → Option τ) → Option τ} {st : List Value} (pj : Nat) (Lf : Ty0 → Ty1 → Ty2 → Ty3 → Ty4 → Ty5 → List (Nat × Value)) (sf : Ty0 → Ty1 → Ty2 → Ty3 → Ty4 → Ty5 → List Value) (Mf : Ty0 → Ty1 → Ty2 → Ty3 → Ty4 → Ty5 → Mem) (hk : ∀ a0 a1 a2 a3 a4 a5, C x w Q nL pj (Lf a0 a1 a2 a3 a4 a5) (sf a0 a1 a2 a3 a4 a5) (Mf a0 a1 a2 a3 a4 a5) (k a0 a1 a2 a3 a4 a5)) (hb : ∀ j : Ty0 → Ty1 → Ty2 → Ty3 → Ty4 → Ty5 → Option τ, (∀ a0 a1 a2 a3 a4 a5, C x w Q nL pj (Lf a0 a1 a2 a3 a4 a5) (sf a0 a1 a2 a3 a4 a5) (Mf a0 a1 a2 a3 a4 a5) (j a0 a1 a2 a3 a4 a5)) → C x w Q nL pc L st M (b j)) : C x w Q nL pc L st M (jn6 k b) := hb k hk
theorem r_wl7 {Ty0 Ty1 Ty2 Ty3 Ty4 Ty5 Ty6 : Type} {step : Ty0 → Ty1 → Ty2 → Ty3 → Ty4 → Ty5 → Ty6 → (Ty0 → Ty1 → Ty2 → Ty3 → Ty4 → Ty5 → Ty6 → Option τ) → Option τ} (Lf : Ty0 → Ty1 → Ty2 → Ty3 → Ty4 → Ty5 → Ty6 → List (Nat × Value)) (sf : Ty0 → Ty1 → Ty2 → Ty3 → Ty4 → Ty5 → Ty6 → List Value) (Mf : Ty0 → Ty1 → Ty2 → Ty3 → Ty4 → Ty5 → Ty6 → Mem) (hs : ∀ a0 a1 a2 a3 a4 a5 a6 (rec : Ty0 → Ty1 → Ty2 → Ty3 → Ty4 → Ty5 → Ty6 → Option τ), (∀ b0 b1 b2 b3 b4 b5 b6, C x w Q nL pc (Lf b0 b1 b2 b3 b4 b5 b6) (sf b0 b1 b2 b3 b4 b5 b6) (Mf b0 b1 b2 b3 b4 b5 b6) (rec b0 b1 b2 b3 b4 b5 b6)) → C x w Q nL pc (Lf a0 a1 a2 a3 a4 a5 a6) (sf a0 a1 a2 a3 a4 a5 a6) (Mf a0 a1 a2 a3 a4 a5 a6) (step a0 a1 a2 a3 a4 a5 a6 rec)) (n : Nat) : ∀ a0 a1 a2 a3 a4 a5 a6, C x w Q nL pc (Lf a0 a1 a2 a3 a4 a5 a6) (sf a0 a1 a2 a3 a4 a5 a6) (Mf a0 a1 a2 a3 a4 a5 a6) (wl7 step n a0 a1 a2 a3 a4 a5 a6) := by
  induction n with
  | zero => intro a0 a1 a2 a3 a4 a5 a6 t ht; cases ht
  | succ n ih => intro a0 a1 a2 a3 a4 a5 a6; exact hs _ _ _ _ _ _ _ _ ih
theorem r_jn7 {Ty0 Ty1 Ty2 Ty3 Ty4 Ty5 Ty6 : Type} {k : Ty0 → Ty1 → Ty2 → Ty3 → Ty4 → Ty5 → Ty6 → Option τ} {b : (Ty0 → Ty1 → Ty2 → Ty3 → Ty4 → Ty5 → Ty6 → Option τ) → Option τ} {st : List Value} (pj : Nat) (Lf : Ty0 → Ty1 → Ty2 → Ty3 → Ty4 → Ty5 → Ty6 → List (Nat × Value)) (sf : Ty0 → Ty1 → Ty2 → Ty3 → Ty4 → Ty5 → Ty6 → List Value) (Mf : Ty0 → Ty1 → Ty2 → Ty3 → Ty4 → Ty5 → Ty6 → Mem) (hk : ∀ a0 a1 a2 a3 a4 a5 a6, C x w Q nL pj (Lf a0 a1 a2 a3 a4 a5 a6) (sf a0 a1 a2 a3 a4 a5 a6) (Mf a0 a1 a2 a3 a4 a5 a6) (k a0 a1 a2 a3 a4 a5 a6)) (hb : ∀ j : Ty0 → Ty1 → Ty2 → Ty3 → Ty4 → Ty5 → Ty6 → Option τ, (∀ a0 a1 a2 a3 a4 a5 a6, C x w Q nL pj (Lf a0 a1 a2 a3 a4 a5 a6) (sf a0 a1 a2 a3 a4 a5 a6) (Mf a0 a1 a2 a3 a4 a5 a6) (j a0 a1 a2 a3 a4 a5 a6)) → C x w Q nL pc L st M (b j)) : C x w Q nL pc L st M (jn7 k b) := hb k hk
theorem r_wl8 {Ty0 Ty1 Ty2 Ty3 Ty4 Ty5 Ty6 Ty7 : Type} {step : Ty0 → Ty1 → Ty2 → Ty3 → Ty4 → Ty5 → Ty6 → Ty7 → (Ty0 → Ty1 → Ty2 → Ty3 → Ty4 → Ty5 → Ty6 → Ty7 → Option τ) → Option τ} (Lf : Ty0 → Ty1 → Ty2 → Ty3 → Ty4 → Ty5 → Ty6 → Ty7 → List (Nat × Value)) (sf : Ty0 → Ty1 → Ty2 → Ty3 → Ty4 → Ty5 → Ty6 → Ty7 → List Value) (Mf : Ty0 → Ty1 → Ty2 → Ty3 → Ty4 → Ty5 → Ty6 → Ty7 → Mem) (hs : ∀ a0 a1 a2 a3 a4 a5 a6 a7 (rec : Ty0 → Ty1 → Ty2 → Ty3 → Ty4 → Ty5 → Ty6 → Ty7 → Option τ), (∀ b0 b1 b2 b3 b4 b5 b6 b7, C x w Q nL pc (Lf b0 b1 b2 b3 b4 b5 b6 b7) (sf b0 b1 b2 b3 b4 b5 b6 b7) (Mf b0 b1 b2 b3 b4 b5 b6 b7) (rec b0 b1 b2 b3 b4 b5 b6 b7)) → C x w Q nL pc (Lf a0 a1 a2 a3 a4 a5 a6 a7) (sf a0 a1 a2 a3 a4 a5 a6 a7) (Mf a0 a1 a2 a3 a4 a5 a6 a7) (step a0 a1 a2 a3 a4 a5 a6 a7 rec)) (n : Nat) : ∀ a0 a1 a2 a3 a4 a5 a6 a7, C x w Q nL pc (Lf a0 a1 a2 a3 a4 a5 a6 a7) (sf a0 a1 a2 a3 a4 a5 a6 a7) (Mf a0 a1 a2 a3 a4 a5 a6 a7) (wl8 step n a0 a1 a2 a3 a4 a5 a6 a7) := by
  induction n with
  | zero => intro a0 a1 a2 a3 a4 a5 a6 a7 t ht; cases ht
  | succ n ih => intro a0 a1 a2 a3 a4 a5 a6 a7; exact hs _ _ _ _ _ _ _ _ _ ih
theorem r_jn8 {Ty0 Ty1 Ty2 Ty3 Ty4 Ty5 Ty6 Ty7 : Type} {k : Ty0 → Ty1 → Ty2 → Ty3 → Ty4 → Ty5 → Ty6 → Ty7 → Option τ} {b : (Ty0 → Ty1 → Ty2 → Ty3 → Ty4 → Ty5 → Ty6 → Ty7 → Option τ) → Option τ} {st : List Value} (pj : Nat) (Lf : Ty0 → Ty1 → Ty2 → Ty3 → Ty4 → Ty5 → Ty6 → Ty7 → List (Nat × Value)) (sf : Ty0 → Ty1 → Ty2 → Ty3 → Ty4 → Ty5 → Ty6 → Ty7 → List Value) (Mf : Ty0 → Ty1 → Ty2 → Ty3 → Ty4 → Ty5 → Ty6 → Ty7 → Mem) (hk : ∀ a0 a1 a2 a3 a4 a5 a6 a7, C x w Q nL pj (Lf a0 a1 a2 a3 a4 a5 a6 a7) (sf a0 a1 a2 a3 a4 a5 a6 a7) (Mf a0 a1 a2 a3 a4 a5 a6 a7) (k a0 a1 a2 a3 a4 a5 a6 a7)) (hb : ∀ j : Ty0 → Ty1 → Ty2 → Ty3 → Ty4 → Ty5 → Ty6 → Ty7 → Option τ, (∀ a0 a1 a2 a3 a4 a5 a6 a7, C x w Q nL pj (Lf a0 a1 a2 a3 a4 a5 a6 a7) (sf a0 a1 a2 a3 a4 a5 a6 a7) (Mf a0 a1 a2 a3 a4 a5 a6 a7) (j a0 a1 a2 a3 a4 a5 a6 a7)) → C x w Q nL pc L st M (b j)) : C x w Q nL pc L st M (jn8 k b) := hb k hk
theorem r_wl9 {Ty0 Ty1 Ty2 Ty3 Ty4 Ty5 Ty6 Ty7 Ty8 : Type} {step : Ty0 → Ty1 → Ty2 → Ty3 → Ty4 → Ty5 → Ty6 → Ty7 → Ty8 → (Ty0 → Ty1 → Ty2 → Ty3 → Ty4 → Ty5 → Ty6 → Ty7 → Ty8 → Option τ) → Option τ} (Lf : Ty0 → Ty1 → Ty2 → Ty3 → Ty4 → Ty5 → Ty6 → Ty7 → Ty8 → List (Nat × Value)) (sf : Ty0 → Ty1 → Ty2 → Ty3 → Ty4 → Ty5 → Ty6 → Ty7 → Ty8 → List Value) (Mf : Ty0 → Ty1 → Ty2 → Ty3 → Ty4 → Ty5 → Ty6 → Ty7 → Ty8 → Mem) (hs : ∀ a0 a1 a2 a3 a4 a5 a6 a7 a8 (rec : Ty0 → Ty1 → Ty2 → Ty3 → Ty4 → Ty5 → Ty6 → Ty7 → Ty8 → Option τ), (∀ b0 b1 b2 b3 b4 b5 b6 b7 b8, C x w Q nL pc (Lf b0 b1 b2 b3 b4 b5 b6 b7 b8) (sf b0 b1 b2 b3 b4 b5 b6 b7 b8) (Mf b0 b1 b2 b3 b4 b5 b6 b7 b8) (rec b0 b1 b2 b3 b4 b5 b6 b7 b8)) → C x w Q nL pc (Lf a0 a1 a2 a3 a4 a5 a6 a7 a8) (sf a0 a1 a2 a3 a4 a5 a6 a7 a8) (Mf a0 a1 a2 a3 a4 a5 a6 a7 a8) (step a0 a1 a2 a3 a4 a5 a6 a7 a8 rec)) (n : Nat) : ∀ a0 a1 a2 a3 a4 a5 a6 a7 a8, C x w Q nL pc (Lf a0 a1 a2 a3 a4 a5 a6 a7 a8) (sf a0 a1 a2 a3 a4 a5 a6 a7 a8) (Mf a0 a1 a2 a3 a4 a5 a6 a7 a8) (wl9 step n a0 a1 a2 a3 a4 a5 a6 a7 a8) := by
  induction n with
  | zero => intro a0 a1 a2 a3 a4 a5 a6 a7 a8 t ht; cases ht
  | succ n ih => intro a0 a1 a2 a3 a4 a5 a6 a7 a8; exact hs _ _ _ _ _ _ _ _ _ _ ih
theorem r_jn9 {Ty0 Ty1 Ty2 Ty3 Ty4 Ty5 Ty6 Ty7 Ty8 : Type} {k : Ty0 → Ty1 → Ty2 → Ty3 → Ty4 → Ty5 → Ty6 → Ty7 → Ty8 → Option τ} {b : (Ty0 → Ty1 → Ty2 → Ty3 → Ty4 → Ty5 → Ty6 → Ty7 → Ty8 → Option τ) → Option τ} {st : List Value} (pj : Nat) (Lf : Ty0 → Ty1 → Ty2 → Ty3 → Ty4 → Ty5 → Ty6 → Ty7 → Ty8 → List (Nat × Value)) (sf : Ty0 → Ty1 → Ty2 → Ty3 → Ty4 → Ty5 → Ty6 → Ty7 → Ty8 → List Value) (Mf : Ty0 → Ty1 → Ty2 → Ty3 → Ty4 → Ty5 → Ty6 → Ty7 → Ty8 → Mem) (hk : ∀ a0 a1 a2 a3 a4 a5 a6 a7 a8, C x w Q nL pj (Lf a0 a1 a2 a3 a4 a5 a6 a7 a8) (sf a0 a1 a2 a3 a4 a5 a6 a7 a8) (Mf a0 a1 a2 a3 a4 a5 a6 a7 a8) (k a0 a1 a2 a3 a4 a5 a6 a7 a8)) (hb : ∀ j : Ty0 → Ty1 → Ty2 → Ty3 → Ty4 → Ty5 → Ty6 → Ty7 → Ty8 → Option τ, (∀ a0 a1 a2 a3 a4 a5 a6 a7 a8, C x w Q nL pj (Lf a0 a1 a2 a3 a4 a5 a6 a7 a8) (sf a0 a1 a2 a3 a4 a5 a6 a7 a8) (Mf a0 a1 a2 a3 a4 a5 a6 a7 a8) (j a0 a1 a2 a3 a4 a5 a6 a7 a8)) → C x w Q nL pc L st M (b j)) : C x w Q nL pc L st M (jn9 k b) := hb k hk
theorem r_wl10 {Ty0 Ty1 Ty2 Ty3 Ty4 Ty5 Ty6 Ty7 Ty8 Ty9 : Type} {step : Ty0 → Ty1 → Ty2 → Ty3 → Ty4 → Ty5 → Ty6 → Ty7 → Ty8 → Ty9 → (Ty0 → Ty1 → Ty2 → Ty3 → Ty4 → Ty5 → Ty6 → Ty7 → Ty8 → Ty9 → Option τ) → Option τ} (Lf : Ty0 → Ty1 → Ty2 → Ty3 → Ty4 → Ty5 → Ty6 → Ty7 → Ty8 → Ty9 → List (Nat × Value)) (sf : Ty0 → Ty1 → Ty2 → Ty3 → Ty4 → Ty5 → Ty6 → Ty7 → Ty8 → Ty9 → List Value) (Mf : Ty0 → Ty1 → Ty2 → Ty3 → Ty4 → Ty5 → Ty6 → Ty7 → Ty8 → Ty9 → Mem) (hs : ∀ a0 a1 a2 a3 a4 a5 a6 a7 a8 a9 (rec : Ty0 → Ty1 → Ty2 → Ty3 → Ty4 → Ty5 → Ty6 → Ty7 → Ty8 → Ty9 → Option τ), (∀ b0 b1 b2 b3 b4 b5 b6 b7 b8 b9, C x w Q nL pc (Lf b0 b1 b2 b3 b4 b5 b6 b7 b8 b9) (sf b0 b1 b2 b3 b4 b5 b6 b7 b8 b9) (Mf b0 b1 b2 b3 b4 b5 b6 b7 b8 b9) (rec b0 b1 b2 b3 b4 b5 b6 b7 b8 b9)) → C x w Q nL pc (Lf a0 a1 a2 a3 a4 a5 a6 a7 a8 a9) (sf a0 a1 a2 a3 a4 a5 a6 a7 a8 a9) (Mf a0 a1 a2 a3 a4 a5 a6 a7 a8 a9) (step a0 a1 a2 a3 a4 a5 a6 a7 a8 a9 rec)) (n : Nat) : ∀ a0 a1 a2 a3 a4 a5 a6 a7 a8 a9, C x w Q nL pc (Lf a0 a1 a2 a3 a4 a5 a6 a7 a8 a9) (sf a0 a1 a2 a3 a4 a5 a6 a7 a8 a9) (Mf a0 a1 a2 a3 a4 a5 a6 a7 a8 a9) (wl10 step n a0 a1 a2 a3 a4 a5 a6 a7 a8 a9) := by
  induction n with
  | zero => intro a0 a1 a2 a3 a4 a5 a6 a7 a8 a9 t ht; cases ht
  | succ n ih => intro a0 a1 a2 a3 a4 a5 a6 a7 a8 a9; exact hs _ _ _ _ _ _ _ _ _ _ _ ih
theorem r_jn10 {Ty0 Ty1 Ty2 Ty3 Ty4 Ty5 Ty6 Ty7 Ty8 Ty9 : Type} {k : Ty0 → Ty1 → Ty2 → Ty3 → Ty4 → Ty5 → Ty6 → Ty7 → Ty8 → Ty9 → Option τ} {b : (Ty0 → Ty1 → Ty2 → Ty3 → Ty4 → Ty5 → Ty6 → Ty7 → Ty8 → Ty9 → Option τ) → Option τ} {st : List Value} (pj : Nat) (Lf : Ty0 → Ty1 → Ty2 → Ty3 → Ty4 → Ty5 → Ty6 → Ty7 → Ty8 → Ty9 → List (Nat × Value)) (sf : Ty0 → Ty1 → Ty2 → Ty3 → Ty4 → Ty5 → Ty6 → Ty7 → Ty8 → Ty9 → List Value) (Mf : Ty0 → Ty1 → Ty2 → Ty3 → Ty4 → Ty5 → Ty6 → Ty7 → Ty8 → Ty9 → Mem) (hk : ∀ a0 a1 a2 a3 a4 a5 a6 a7 a8 a9, C x w Q nL pj (Lf a0 a1 a2 a3 a4 a5 a6 a7 a8 a9) (sf a0 a1 a2 a3 a4 a5 a6 a7 a8 a9) (Mf a0 a1 a2 a3 a4 a5 a6 a7 a8 a9) (k a0 a1 a2 a3 a4 a5 a6 a7 a8 a9)) (hb : ∀ j : Ty0 → Ty1 → Ty2 → Ty3 → Ty4 → Ty5 → Ty6 → Ty7 → Ty8 → Ty9 → Option τ, (∀ a0 a1 a2 a3 a4 a5 a6 a7 a8 a9, C x w Q nL pj (Lf a0 a1 a2 a3 a4 a5 a6 a7 a8 a9) (sf a0 a1 a2 a3 a4 a5 a6 a7 a8 a9) (Mf a0 a1 a2 a3 a4 a5 a6 a7 a8 a9) (j a0 a1 a2 a3 a4 a5 a6 a7 a8 a9)) → C x w Q nL pc L st M (b j)) : C x w Q nL pc L st M (jn10 k b) := hb k hk
end RJ
def DAt (cc : ByteArray) (o : Option (Nat × Instr × Nat)) : Prop := match o with
  | some q => decode cc q.1 = .ok q.2
  | none => True
theorem dat_of {cc : ByteArray} {tb : List (Nat × Instr × Nat)} (h : ∀ q ∈ tb, decode cc q.1 = .ok q.2) (i : Nat) : DAt cc (tb[i]?) := by
  cases e : tb[i]? with
  | none => trivial
  | some q => exact h q (List.mem_of_getElem? e)
theorem inb_lt {i : Int32} {n : Nat} (h : inb i n = true) : ix i < n := by
  simp only [inb, Bool.and_eq_true, decide_eq_true_eq] at h
  exact h.2
theorem gd_ne {y : Int32} (h : (y != 0) = true) : ¬ y = 0 := by simpa using h
theorem gd_neL {y : Int64} (h : (y != 0) = true) : ¬ y = 0 := by simpa using h
