/-! ===== a constructor is called ===== -/
section RK
variable {τ : Type} {own : String} {nL fr lo : Nat} {ret : Option FieldType} {w : WX} {x : MX} {Q : τ → State → Prop} {pc : Nat} {L L' : List (Nat × Value)} {M M' : Mem} {f : Option τ} {t K N : Nat} {G G0 : List (Nat × Nat)}
theorem PcI.blind (w : WX) (t ci : Nat) (avs : List Value) (M : Mem) : FrameBlind (PcI w t ci avs M) := fun a U g mk h => ⟨h.1, h.2.1, h.2.2.1, h.2.2.2.moved (u := U) (U := U.calling g mk a) (Vm.Alike.refl U.vm) (fun _ _ _ _ h => vk_R.same rfl h) (Nat.le_refl _) (fun _ _ _ => rfl)⟩
theorem mkBI {idx n fr' lo' nL' kc ks : Nat} {y : MethodName} {cc' : ByteArray} {ret' : Option FieldType} (hx : Ok own nL ret fr lo w x) (hmd : MD y cc' nL' ret' n) (hlk : Cond.methodLink own idx y ∈ UW) (hR : fr' + 1 ≤ fr ∧ 8 + (nL' + 11) + lo' ≤ lo) : CallB (xR x) (xs_ x) (xa x) own idx y cc' nL' ret' (Cond.code y cc' nL' ret' :: UW) (rmI fr' lo' kc ks) kc ks n := by
  have hU := hx.2.2.1
  obtain ⟨h1, h2, h3, h4, h5⟩ := hmd
  refine ⟨rfl, rfl, ?_, ?_, ?_, List.mem_cons_self, hU _ h1, hU _ h2, ⟨h3, h4⟩, ?_, hU _ hlk⟩
  · rw [hx.2.2.2.2.2.2.1.1]; exact hR.1
  · rw [hx.2.2.2.2.2.2.1.2.1]; exact hR.2
  · intro q hq a' U hW
    rcases List.mem_cons.mp hq with rfl | hq
    · exact uw_keep hW h1 (hU _ h1)
    · exact uw_keep hW hq (hU _ hq)
  · intro sig hs
    rw [hs] at h5
    exact (Option.some.inj h5).symm
theorem mkNI {idx n fr' lo' nL' kc ks : Nat} {y : MethodName} {host : String} {cc' : ByteArray} {ret' : Option FieldType} (hx : Ok own nL ret fr lo w x) (hmd : MD y cc' nL' ret' n) (hlk : Cond.methodLinkNest own idx y host ∈ UW) (hR : fr' + 1 ≤ fr ∧ 8 + (nL' + 11) + lo' ≤ lo) : va_CN (xR x) (xs_ x) (xa x) own idx y host cc' nL' ret' (Cond.code y cc' nL' ret' :: UW) (rmI fr' lo' kc ks) kc ks n := by
  have hU := hx.2.2.1
  obtain ⟨h1, h2, h3, h4, h5⟩ := hmd
  refine ⟨⟨rfl, rfl, ?_, ?_, ?_, List.mem_cons_self⟩, hU _ h1, hU _ h2, ⟨h3, h4⟩, ?_, hU _ hlk⟩
  · rw [hx.2.2.2.2.2.2.1.1]; exact hR.1
  · rw [hx.2.2.2.2.2.2.1.2.1]; exact hR.2
  · intro q hq a' U hW
    rcases List.mem_cons.mp hq with rfl | hq
    · exact uw_keep hW h1 (hU _ h1)
    · exact uw_keep hW hq (hU _ hq)
  · intro sig hs
    rw [hs] at h5
    exact (Option.some.inj h5).symm
theorem q_runI {kc ks ci : Nat} {avs st0 rest : List Value} {Gc : List (Nat × Nat)} {Mc : Mem} (hb : Bel w t) (hs : (xs_ x).heap.size + K = t + (G0 ++ [(40 + ci, 0)]).length) (hx : Ok own nL ret fr lo (wg w t (G0 ++ [(40 + ci, 0)])) (xat x K N)) (hrun : ∀ (H : Heap) (locs : List Loc) (ls : Array Slot), (∀ U : State, U.heap = H → (xs_ x).WarmedH U.vm → PcI (wg w t G0) (t + G0.length) ci avs M avs.toArray U) → lv_has ls nL L → va_Run (xp x) (xl x) (xe x) (xR x) (xs_ x) (xm x) (xa x) (xb x) (xt x) (xc x) H locs K N kc ks (F0 (xm x) pc ls st0) rest (QcI (wg w t G0) (t + G0.length) Gc Mc avs.toArray) (A0 (wg w t G0)))
    (kk : C (xat x (K + kc) (N + ks)) (wg w t (G0 ++ Gc)) Q nL (pc + 3) L rest Mc f) : C (xat x K N) (wg w t (G0 ++ [(40 + ci, 0)])) Q nL pc L st0 M f := by
  refine r_szA hb (Or.inl (by simp)) hs (fun t9 ht H locs ls hsz hH hS hl => ?_)
  have hpre : ∀ U : State, U.heap = H → (xs_ x).WarmedH U.vm → PcI (wg w t G0) (t + G0.length) ci avs M avs.toArray U := by
    intro U hU hW
    refine ⟨rfl, by rw [hU, hsz]; simp; omega, ?_, ?_⟩
    · rw [← wg_app, hU]; exact hH
    · rw [← wg_app]
      exact hx.2.2.2.1.moved hW.alike (fun _ _ _ _ h => vk_R.warm hW h) (by rw [hU]; exact hS.1) (fun a h1 h2 => by rw [hU]; exact hS.2.1 a h1 h2)
  intro T hT X
  obtain ⟨v, st₀, t1, T', Lc, h0, X', hL, e1, e2, ⟨hv, hH1, hF1⟩, st⟩ := hrun H locs ls hpre hl T hT X
  cases hv
  have hz : H.size ≤ T'.heap.size := by rw [e1, ← h0]; exact hF1.1
  have hk : ∀ q : Nat, q < H.size → ¬ A0 w q → T'.heap[q]? = H[q]? := fun q h1 h2 => by rw [e1, ← h0]; exact hF1.2 q (by rw [h0]; exact h1) h2
  rw [← wg_app] at hH1
  have kk1 := kk t9 ht T'.heap (locs ++ Lc) ls (by rw [e1]; exact hH1) ⟨Nat.le_trans hS.1 hz, fun q h1 h2 => by rw [hk q (Nat.lt_of_lt_of_le h1 hS.1) h2]; exact hS.2.1 q h1 h2, fun q hq => by
    rcases List.mem_append.mp hq with h | h
    · exact hS.2.2 q h
    · exact hL q h⟩ hl
  obtain ⟨t2, a1, b1⟩ := kk1 T' rfl X'
  exact ⟨t2, st t2 a1, b1⟩
theorem q_callI {o : Nat} {idx n fr' lo' nL' kc ks ci : Nat} {y : MethodName} {cc' : ByteArray} {As st0 rest : List Value} {Gc : List (Nat × Nat)} {Mc : Mem} (ho : G0.length = o) (hb : Bel w t) (hs : (xs_ x).heap.size + K = t + (G0 ++ [(40 + ci, 0)]).length) (hx : Ok own nL ret fr lo (wg w t (G0 ++ [(40 + ci, 0)])) (xat x K N)) (hdg : decode (xc x).code pc = .ok (.invokespecial idx, 3)) (hmd : MD y cc' nL' none n) (hyn : y.name = "<init>") (hin : Cond.instanceMethod y ∈ UW) (hlk : Cond.methodLink own idx y ∈ UW) (hct : CtI (xl x) (wg w t G0) (t + o) ci y cc' nL' fr' lo' kc ks (.ref (t + o) :: As) M Gc Mc) (hR : fr' + 1 ≤ fr ∧ 8 + (nL' + 11) + lo' ≤ lo) (hk : K + kc ≤ (xR x).cells) (hsl : N + ks ≤ (xR x).slots) (hst : st0 = As.reverse ++ .ref (t + o) :: rest) (hn : As.length = n) (hcat : (rest.map fun v => v.category).sum ≤ 8)
    (kk : C (xat x (K + kc) (N + ks)) (wg w t (G0 ++ Gc)) Q nL (pc + 3) L rest Mc f) : C (xat x K N) (wg w t (G0 ++ [(40 + ci, 0)])) Q nL pc L st0 M f := by
  subst ho
  refine q_runI (avs := .ref (t + G0.length) :: As) hb hs hx (fun H locs ls hpre hl => ?_) kk
  exact va_runI (nL := nL) ⟨hx.1, rfl, hx.2.2.2.2.2.2.2, hx.2.1, hx.2.2.1⟩ hct ⟨mkBI (x := xat x K N) hx hmd hlk hR, hyn, hx.2.2.1 _ hin⟩ ⟨PcI.blind _ _ _ _ M, hpre⟩ rfl hn hl.1 hst (lv_room hcat) hdg ⟨hk, hsl⟩
theorem q_callIN {o : Nat} {idx n fr' lo' nL' kc ks ci : Nat} {y : MethodName} {host : String} {cc' : ByteArray} {As st0 rest : List Value} {Gc : List (Nat × Nat)} {Mc : Mem} (ho : G0.length = o) (hb : Bel w t) (hs : (xs_ x).heap.size + K = t + (G0 ++ [(40 + ci, 0)]).length) (hx : Ok own nL ret fr lo (wg w t (G0 ++ [(40 + ci, 0)])) (xat x K N)) (hdg : decode (xc x).code pc = .ok (.invokespecial idx, 3)) (hmd : MD y cc' nL' none n) (hyn : y.name = "<init>") (hin : Cond.instanceMethod y ∈ UW) (hlk : Cond.methodLinkNest own idx y host ∈ UW) (hct : CtI (xl x) (wg w t G0) (t + o) ci y cc' nL' fr' lo' kc ks (.ref (t + o) :: As) M Gc Mc) (hR : fr' + 1 ≤ fr ∧ 8 + (nL' + 11) + lo' ≤ lo) (hk : K + kc ≤ (xR x).cells) (hsl : N + ks ≤ (xR x).slots) (hst : st0 = As.reverse ++ .ref (t + o) :: rest) (hn : As.length = n) (hcat : (rest.map fun v => v.category).sum ≤ 8)
    (kk : C (xat x (K + kc) (N + ks)) (wg w t (G0 ++ Gc)) Q nL (pc + 3) L rest Mc f) : C (xat x K N) (wg w t (G0 ++ [(40 + ci, 0)])) Q nL pc L st0 M f := by
  subst ho
  refine q_runI (avs := .ref (t + G0.length) :: As) hb hs hx (fun H locs ls hpre hl => ?_) kk
  exact va_runIN (nL := nL) ⟨hx.1, rfl, hx.2.2.2.2.2.2.2, hx.2.1, hx.2.2.1⟩ hct ⟨mkNI (x := xat x K N) hx hmd hlk hR, hyn, hx.2.2.1 _ hin⟩ ⟨PcI.blind _ _ _ _ M, hpre⟩ rfl hn hl.1 hst (lv_room hcat) hdg ⟨hk, hsl⟩
end RK
