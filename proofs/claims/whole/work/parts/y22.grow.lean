/-! ===== methods that make cells ===== -/
theorem wg_nil {w : WX} {a : Nat} : wg w a [] = w := by
  obtain ⟨w1, w2, w3, w4, w5, w6⟩ := w
  have e : (fun q : Nat => if a ≤ q ∧ q < a + 0 then kat [] (q - a) else w6 q) = w6 := by
    funext q
    rw [if_neg (by omega)]
  show (w1, w2, w3, w4, w5 ++ [], fun q : Nat => if a ≤ q ∧ q < a + 0 then kat [] (q - a) else w6 q) = _
  rw [e, List.append_nil]
theorem bel_hol {w : WX} {M : Mem} {H : Heap} (h : Hol w M H) : Bel w H.size := by
  intro a ha
  obtain ⟨k, hk⟩ := wcl_get (w := w) (M := M) ha
  exact (h.1 k _ hk).lt
def PcG (w : WX) (a : Nat) (avs : List Value) (M : Mem) : Array Value → State → Prop := fun ar U => ar = avs.toArray ∧ U.heap.size = a ∧ Hol w M U.heap ∧ Fix w U
def QcG (w : WX) (a : Nat) (v : Option Value) (G : List (Nat × Nat)) (M : Mem) : Array Value → State → Outcome → State → Prop := fun _ st oc u => oc = .returned v ∧ Hol (wg w a G) M u.heap ∧ va_F (A0 w) st u
/-- a method's contract that may make cells, from the address a on -/
def CtG {τ : Type} (l : Launch) (w : WX) (a : Nat) (y : MethodName) (cc : ByteArray) (nL : Nat) (ret : Option FieldType) (fr lo kc ks : Nat) (ev : τ → Option Value) (eg : τ → List (Nat × Nat)) (em : τ → Mem) (avs : List Value) (M : Mem) (f : Option τ) : Prop :=
  ∀ t, f = some t → Met l y (Cond.code y cc nL ret :: UW) (rmI fr lo kc ks) (PcG w a avs M) (QcG w a (ev t) (eg t) (em t)) kc ks (A0 w)
def Qg {τ : Type} (x : MX) (w : WX) (a kc ks : Nat) (ev : τ → Option Value) (eg : τ → List (Nat × Nat)) (em : τ → Mem) : τ → State → Prop := fun t => MQ (xb x) (QcG w a (ev t) (eg t) (em t)) (xa x) (xs_ x) kc ks (A0 w)
theorem PcG.blind (w : WX) (a : Nat) (avs : List Value) (M : Mem) : FrameBlind (PcG w a avs M) := fun ar U g mk h => ⟨h.1, h.2.1, h.2.2.1, h.2.2.2.moved (u := U) (U := U.calling g mk ar) (Vm.Alike.refl U.vm) (fun _ _ _ _ h => vk_R.same rfl h) (Nat.le_refl _) (fun _ _ _ => rfl)⟩
def egM {ρ σ : Type} : ρ × σ × Mem → σ := fun t => t.2.1
def emG {ρ σ : Type} : ρ × σ × Mem → Mem := fun t => t.2.2
def evIG {σ : Type} : Int32 × σ × Mem → Option Value := fun t => some (.int t.1)
def evJG {σ : Type} : Int64 × σ × Mem → Option Value := fun t => some (.long t.1)
section RG
variable {τ τ' : Type} {own : String} {nL fr lo : Nat} {ret : Option FieldType} {w : WX} {x : MX} {Q : τ → State → Prop} {pc pc' : Nat} {L L' : List (Nat × Value)} {rest : List Value} {M M' : Mem} {f : Option τ} {a K N kc ks : Nat} {G : List (Nat × Nat)} {ev : τ → Option Value} {eg : τ → List (Nat × Nat)} {em : τ → Mem} {ev' : τ' → Option Value} {eg' : τ' → List (Nat × Nat)} {em' : τ' → Mem}
theorem ctG_of {l : Launch} {y : MethodName} {cc : ByteArray} {avs : List Value} (hy : plainName y.cls = true) (hargs : (lg_sl avs).length ≤ nL) (body : ∀ x, xl x = l → (xs_ x).heap.size = a → (xR x).cells = kc ∧ (xR x).slots = ks → Ok y.cls nL ret fr lo (wg w a []) (xat x 0 0) → (xc x).code = cc → C (xat x 0 0) (wg w a []) (Qg x w a kc ks ev eg em) nL 0 (lv_args 0 avs) [] M f) : CtG l w a y cc nL ret fr lo kc ks ev eg em avs M f := by
  intro t ht
  refine Met.ofW (cc := cc) (maxL := nL) (ret := ret) hy rfl ?_
  intro p e s m args below meth c s₁ B hml hv
  obtain ⟨rfl, hsz, hH, hF⟩ := hv
  have hts := atoms_spec (ws := Cond.code y cc nL ret :: UW) B.pre
  have hx : Ok y.cls nL ret fr lo w (p, l, e, rmI fr lo kc ks, s, m, avs.toArray, below, meth, c, 0, 0) := ⟨B.exec, findClass_of_methodNamed B.named, fun q hq => hts q (List.mem_cons_of_mem _ hq), hF, B.returns, B.notSynchronized, ⟨rfl, rfl, Nat.zero_le _, Nat.zero_le _⟩, hml⟩
  have Kk := body (p, l, e, rmI fr lo kc ks, s, m, avs.toArray, below, meth, c, 0, 0) rfl hsz ⟨rfl, rfl⟩ (by rw [wg_nil]; exact hx) B.bytes t ht s.heap [] _ (by rw [wg_nil]; exact hH) va_S.rf (lv_entry avs hargs)
  rw [lg_entry_eq]
  exact Kk
theorem q_iretG {v : Int32} {t0 : τ} (hx : Ok own nL (some .int) fr lo (wg w a G) (xat x K N)) (hdg : decode (xc x).code pc = .ok (.ireturn, 1)) (he : ev t0 = some (.int v)) (hg : eg t0 = G) (hm : em t0 = M) (hk : K ≤ kc) (hn : N ≤ ks) : C (xat x K N) (wg w a G) (Qg x w a kc ks ev eg em) nL pc L [.int v] M (some t0) := by
  intro t ht H locs ls hH hS hl
  cases ht
  refine W.widen (k := kc) (n := ks) hk hn ?_
  exact W.iret hx.1 rfl hx.2.2.2.2.1 (fun u hu hW => ⟨by rw [he], by rw [hu, hm, hg]; exact hH, hS.F hu⟩) hS.2.2 hdg hx.2.2.2.2.2.1
theorem q_lretG {v : Int64} {t0 : τ} (hx : Ok own nL (some .long) fr lo (wg w a G) (xat x K N)) (hdg : decode (xc x).code pc = .ok (.lreturn, 1)) (he : ev t0 = some (.long v)) (hg : eg t0 = G) (hm : em t0 = M) (hk : K ≤ kc) (hn : N ≤ ks) : C (xat x K N) (wg w a G) (Qg x w a kc ks ev eg em) nL pc L [.long v] M (some t0) := by
  intro t ht H locs ls hH hS hl
  cases ht
  refine W.widen (k := kc) (n := ks) hk hn ?_
  exact W.lret hx.1 rfl hx.2.2.2.2.1 (fun u hu hW => ⟨by rw [he], by rw [hu, hm, hg]; exact hH, hS.F hu⟩) hS.2.2 hdg hx.2.2.2.2.2.1
theorem q_aretG {v : Nat} {t0 : τ} (hx : Ok own nL (some (.array .int)) fr lo (wg w a G) (xat x K N)) (hdg : decode (xc x).code pc = .ok (.areturn, 1)) (he : ev t0 = some (.ref v)) (hg : eg t0 = G) (hm : em t0 = M) (hk : K ≤ kc) (hn : N ≤ ks) : C (xat x K N) (wg w a G) (Qg x w a kc ks ev eg em) nL pc L [.ref v] M (some t0) := by
  intro t ht H locs ls hH hS hl
  cases ht
  refine W.widen (k := kc) (n := ks) hk hn ?_
  exact W.aret hx.1 rfl hx.2.2.2.2.1 (Or.inr ⟨_, rfl⟩) (Or.inr ⟨v, rfl⟩) (fun u hu hW => ⟨by rw [he], by rw [hu, hm, hg]; exact hH, hS.F hu⟩) hS.2.2 hdg hx.2.2.2.2.2.1
/-- memory at addresses that are nobody's -/
theorem q_free {st : List Value} (hM : ∀ q, q ∈ wdom w → mI M' q = mI M q ∧ mJ M' q = mJ M q ∧ mR M' q = mR M q ∧ mN M' q = mN M q) (kk : C x w Q nL pc L st M' f) : C x w Q nL pc L st M f :=
  q_hol rfl (fun H hH => hol_congr hM hH) kk
theorem put_free {t S : Nat} {U : Mem} (hb : Bel w t) : ∀ q, q ∈ wdom w → mI (put M t S U) q = mI M q ∧ mJ (put M t S U) q = mJ M q ∧ mR (put M t S U) q = mR M q ∧ mN (put M t S U) q = mN M q := fun q hq => put_outy (Or.inl (hb q hq))
/-- a call of a method that may make cells: where they come to lie is the machine's matter -/
theorem q_runG {avs st0 rest : List Value} {w1 : WX} {g : Nat → Option τ'} (hx : Ok own nL ret fr lo w1 (xat x K N)) (hg : ∀ a, Bel w1 a → wz w1 ≤ a → ∃ t', g a = some t') (hrun : ∀ (H : Heap) (locs : List Loc) (ls : Array Slot) t', g H.size = some t' → Bel w1 H.size → wz w1 ≤ H.size → (∀ U : State, U.heap = H → (xs_ x).WarmedH U.vm → PcG w1 H.size avs M avs.toArray U) → lv_has ls nL L → va_Run (xp x) (xl x) (xe x) (xR x) (xs_ x) (xm x) (xa x) (xb x) (xt x) (xc x) H locs K N kc ks (F0 (xm x) pc ls st0) rest (QcG w1 H.size (ev' t') (eg' t') (em' t') avs.toArray) (A0 w1)) (kk : ∀ a t', Bel w1 a → wz w1 ≤ a → g a = some t' → C (xat x (K + kc) (N + ks)) (wg w1 a (eg' t')) Q nL (pc + 3) L ((ev' t').toList ++ rest) (em' t') f) : C (xat x K N) w1 Q nL pc L st0 M f := by
  intro t9 ht H locs ls hH hS hl
  have hb : Bel w1 H.size := bel_hol hH
  have hz : wz w1 ≤ H.size := Nat.le_trans hx.2.2.2.1.1 hS.1
  obtain ⟨t', hgt⟩ := hg H.size hb hz
  have hpre : ∀ U : State, U.heap = H → (xs_ x).WarmedH U.vm → PcG w1 H.size avs M avs.toArray U := by
    intro U hU hW
    exact ⟨rfl, by rw [hU], by rw [hU]; exact hH, hx.2.2.2.1.moved hW.alike (fun _ _ _ _ h => vk_R.warm hW h) (by rw [hU]; exact hS.1) (fun a h1 h2 => by rw [hU]; exact hS.2.1 a h1 h2)⟩
  intro T hT X
  obtain ⟨v, st₀, t1, T', Lc, h0, X', hL, e1, e2, ⟨hv, hH1, hF1⟩, st⟩ := hrun H locs ls t' hgt hb hz hpre hl T hT X
  cases hv
  have hzz : H.size ≤ T'.heap.size := by rw [e1, ← h0]; exact hF1.1
  have hk : ∀ q : Nat, q < H.size → ¬ A0 w1 q → T'.heap[q]? = H[q]? := fun q h1 h2 => by rw [e1, ← h0]; exact hF1.2 q (by rw [h0]; exact h1) h2
  have kk1 := kk H.size t' hb hz hgt t9 ht T'.heap (locs ++ Lc) ls (by rw [e1]; exact hH1) ⟨Nat.le_trans hS.1 hzz, fun q h1 h2 => by rw [hk q (Nat.lt_of_lt_of_le h1 hS.1) h2]; exact hS.2.1 q h1 h2, fun q hq => by
    rcases List.mem_append.mp hq with h | h
    · exact hS.2.2 q h
    · exact hL q h⟩ hl
  obtain ⟨t2, a1, b1⟩ := kk1 T' rfl X'
  exact ⟨t2, st t2 a1, b1⟩
end RG
