/-! ===== the law's loop ===== -/
abbrev lx (p : Program) (l : Launch) (e : Env) (s : State) (m : MethodId) (below : List Frame) (meth : Method) (c : Code) (b : Nat) : MX := (p, l, e, room_1, s, m, #[Value.ref b], below, meth, c, 0, 0)
/-- from here on (the place pc of the loop's body, or its head) the law comes to its end -/
def LpB (p : Program) (l : Launch) (e : Env) (s : State) (m : MethodId) (below : List Frame) (meth : Method) (c : Code) (b L : Nat) (Inv : Nat → Nat → Nat → Mem → Prop) (t u i K N pc : Nat) : Prop :=
  ∀ (w : WX) (M : Mem) (T : Nat), Ok R_law 4 ret 2048 84000 w (xat (lx p l e s m below meth c b) K N) → wz w = s.heap.size → Lay w → Wat w t 11 0 → Wat w u 12 0 → (∀ a, Bel w a → T ≤ a) → Inv t u T M → C (xat (lx p l e s m below meth c b) K N) w (fun _ : Unit => lw_Z below #[Value.ref b] s) 4 pc [(0, .ref b), (1, .ref t), (2, .ref u), (3, .int (Int32.ofNat i))] [] M (some ())
def LpN (p : Program) (l : Launch) (e : Env) (s : State) (m : MethodId) (below : List Frame) (meth : Method) (c : Code) (b L : Nat) (Inv : Nat → Nat → Nat → Mem → Prop) (t u i K N : Nat) : Prop :=
  K ≤ 600000 ∧ N ≤ 7302250 ∧ ∀ K' N', K' ≤ K → N' ≤ N → LpB p l e s m below meth c b L Inv t u i K' N' 18
theorem LpN.le {p : Program} {l : Launch} {e : Env} {s : State} {m : MethodId} {below : List Frame} {meth : Method} {c : Code} {b L : Nat} {Inv : Nat → Nat → Nat → Mem → Prop} {t u i K N K' N' : Nat} (h : LpN p l e s m below meth c b L Inv t u i K N) (hK : K' ≤ K) (hN : N' ≤ N) : LpB p l e s m below meth c b L Inv t u i K' N' 18 := h.2.2 K' N' hK hN
theorem lj {i L : Nat} (hL : L ≤ 3072) {v : Int32} {j : Nat} (hv : v = Int32.ofNat j ∧ j < 6) (h : i + j < L) : inb (Int32.ofNat i + v) L = true ∧ ix (Int32.ofNat i + v) = i + j := by
  obtain ⟨rfl, hj⟩ := hv
  have e1 : (Int32.ofNat i + Int32.ofNat j) = Int32.ofNat (i + j) := (Int32.ofNat_add i j).symm
  have e2 : (Int32.ofNat (i + j)).toInt = ((i + j : Nat) : Int) := Int32.toInt_ofNat_of_lt (by omega)
  rw [e1]
  have e3 : ix (Int32.ofNat (i + j)) = i + j := by
    show (Int32.ofNat (i + j)).toInt.toNat = i + j
    rw [e2]; rfl
  refine ⟨?_, e3⟩
  unfold inb
  have h0 : ¬ (Int32.ofNat (i + j) < 0) := fun h => by
    have := Int32.lt_iff_toInt_lt.mp h
    rw [e2] at this
    have z : (0 : Int32).toInt = 0 := rfl
    omega
  have e4 : (Int32.ofNat (i + j)).toNatClampNeg = i + j := e3
  rw [e4, decide_eq_false h0, decide_eq_true h]; rfl
theorem l0 {i L : Nat} (hL : L ≤ 3072) (h : i < L) : inb (Int32.ofNat i) L = true ∧ ix (Int32.ofNat i) = i := by
  have := lj hL (v := 0) (j := 0) (by decide) (i := i) h
  rwa [show Int32.ofNat i + 0 = Int32.ofNat i from Int32.add_zero _] at this
theorem l6 {i : Nat} (_ : i < 100000) : Int32.ofNat i + Int32.ofInt 6 = Int32.ofNat (i + 6) := (Int32.ofNat_add i 6).symm
theorem sw_const {τ : Type} {x : Int} {d : Option τ} : ∀ {gs : List (Option τ)} {lo : Int}, (∀ g ∈ gs, g = d) → sw x lo gs d = d
  | [], _, _ => rfl
  | g :: gs, lo, h => by
    unfold sw
    split
    · exact h g List.mem_cons_self
    · exact sw_const (fun g hg => h g (List.mem_cons_of_mem _ hg))
theorem swc : ∀ g ∈ ([some (), some (), some (), some (), some (), some (), some (), some (), some (), some (), some (), some (), some (), some (), some (), some (), some (), some (), some (), some (), some (), some (), some (), some (), some (), some (), some (), some (), some (), some (), some (), some (), some (), some (), some (), some (), some ()] : List (Option Unit)), g = some () := by decide
theorem z_layG {w : WX} {a : Nat} {G : List (Nat × Nat)} (hL : Lay w) (hb : Bel w a) (h : G = [] ∨ G = [(21, 20)] ∨ G = [(9, 0), (23, 0), (23, 0)]) : Lay (wg w a G) := by
  rcases h with rfl | rfl | rfl
  · exact lay_wg hL hb (by decide)
  · exact lay_wg hL hb (by decide)
  · exact lay_wg hL hb (by decide)
theorem z_topG {w : WX} {a T : Nat} {G : List (Nat × Nat)} (hb : Bel w a) (hT : ∀ a, Bel w a → T ≤ a) : ∀ a2, Bel (wg w a G) a2 → nT T a G ≤ a2 := by
  intro a2 h2
  cases G with
  | nil => exact hT a2 (by rw [wg_nil] at h2; exact h2)
  | cons g G =>
    have := h2 (a + G.length) (wg_dom.mpr (Or.inr ⟨Nat.le_add_right _ _, by simp⟩))
    show a + (G.length + 1) ≤ a2
    omega
def Gpy {α β : Type} (o : Option (α × List (Nat × Nat) × β)) : Prop := ∀ r, o = some r → (r.2.1 = [] ∨ r.2.1 = [(21, 20)] ∨ r.2.1 = [(9, 0), (23, 0), (23, 0)])
theorem Gpy.ok {α β : Type} {v : α} {M : β} {G : List (Nat × Nat)} (h : G = [] ∨ G = [(21, 20)] ∨ G = [(9, 0), (23, 0), (23, 0)]) : Gpy (some (v, G, M)) := fun r hr => by cases hr; exact h
theorem Gpy.ite {α β : Type} {c : Prop} [Decidable c] {a b : Option (α × List (Nat × Nat) × β)} (h1 : Gpy a) (h2 : Gpy b) : Gpy (if c then a else b) := by split <;> assumption
theorem Gpy.bind {α β γ : Type} {o : Option γ} {k : γ → Option (α × List (Nat × Nat) × β)} (h : ∀ x, Gpy (k x)) : Gpy (o.bind k) := by
  cases o with
  | none => intro r hr; cases hr
  | some x => exact h x
theorem Gp_gd {α β : Type} {c : Bool} {k : Option (α × List (Nat × Nat) × β)} (h : Gpy k) : Gpy (gd c k) := by
  unfold gd
  split
  · exact h
  · intro r hr; cases hr
theorem Gp_wl2 {α β γ δ : Type} {step : γ → δ → (γ → δ → Option (α × List (Nat × Nat) × β)) → Option (α × List (Nat × Nat) × β)} (h : ∀ x y rec, (∀ x y, Gpy (rec x y)) → Gpy (step x y rec)) : ∀ (n : Nat) (x : γ) (y : δ), Gpy (wl2 step n x y)
  | 0, _, _ => fun r hr => by cases hr
  | n + 1, x, y => h x y _ (fun x y => Gp_wl2 h n x y)
theorem Gp_nm {α β γ : Type} {e : γ} {k : γ → Option (α × List (Nat × Nat) × β)} (h : ∀ x, Gpy (k x)) : Gpy (nm e k) := h e
theorem Gp_bdM {α β γ : Type} {o : Option (γ × Mem)} {k : γ → Mem → Option (α × List (Nat × Nat) × β)} (h : ∀ x y, Gpy (k x y)) : Gpy (bdM o k) := Gpy.bind (fun q => h q.1 q.2)
theorem Gp_jn0 {α β : Type} {k : Option (α × List (Nat × Nat) × β)} {b : Option (α × List (Nat × Nat) × β) → Option (α × List (Nat × Nat) × β)} (h : Gpy (b k)) : Gpy (jn0 k b) := h
theorem Gp_jn1 {α β γ : Type} {k : γ → Option (α × List (Nat × Nat) × β)} {b : (γ → Option (α × List (Nat × Nat) × β)) → Option (α × List (Nat × Nat) × β)} (h : Gpy (b k)) : Gpy (jn1 k b) := h
theorem few_G {t a : Nat} {p1 p2 : Int32} {M : Mem} {r : Int64 × List (Nat × Nat) × Mem} (h : FX11_few t p1 p2 a M = some r) : r.2.1 = [] ∨ r.2.1 = [(21, 20)] ∨ r.2.1 = [(9, 0), (23, 0), (23, 0)] := by
  have e0 : Gpy (some ((-1 : Int64), ([] : List (Nat × Nat)), M)) := Gpy.ok (Or.inl rfl)
  have key : Gpy (FX11_few t p1 p2 a M) := by
    unfold FX11_few
    generalize fuel = n
    refine Gp_jn0 ?_
    refine Gpy.ite e0 (Gpy.ite e0 (Gpy.ite e0 (Gpy.ite (Gpy.bind fun r => Gp_nm fun M5 => Gp_nm fun M6 => ?_) e0)))
    refine Gp_wl2 (fun v M8 rec ih => ?_) _ _ _
    refine Gpy.ite (Gp_wl2 (fun v1 v2 rec2 ih2 => Gpy.ite (Gpy.ok (Or.inr (Or.inl rfl))) (Gp_gd (Gp_nm fun _ => Gp_nm fun _ => ih2 _ _))) _ _ _) (Gp_nm fun _ => Gp_wl2 (fun v3 M4 rec3 ih3 => Gpy.ite (Gp_nm fun _ => ih _ _) ?_) _ _ _)
    refine Gp_jn1 ?_
    exact Gpy.ite (Gp_gd (Gp_gd (Gp_gd (Gp_nm fun _ => Gp_nm fun _ => ih3 _ _)))) (Gp_gd (Gp_gd (Gp_nm fun _ => Gp_nm fun _ => ih3 _ _)))
  exact key r h
theorem law_G {t a : Nat} {M : Mem} {r : Int32 × List (Nat × Nat) × Mem} (h : FX11_law t a M = some r) : r.2.1 = [] ∨ r.2.1 = [(21, 20)] ∨ r.2.1 = [(9, 0), (23, 0), (23, 0)] := by
  have key : Gpy (FX11_law t a M) := by
    unfold FX11_law
    refine Gpy.ite (Gp_bdM fun _ _ => Gpy.ite (Gp_gd (Gp_nm fun _ => Gp_gd (Gp_nm fun _ => Gp_nm fun _ => Gp_bdM fun _ _ => Gpy.ok (Or.inr (Or.inr rfl))))) (Gp_bdM fun _ _ => Gpy.ok (Or.inl rfl))) (Gp_nm fun _ => Gp_bdM fun _ _ => Gpy.ok (Or.inl rfl))
  exact key r h
section RL
variable {τ τ' : Type} {own : String} {nL fr lo : Nat} {ret' : Option FieldType} {w : WX} {x : MX} {Q : τ → State → Prop} {pc pc' : Nat} {L L' : List (Nat × Value)} {M M' : Mem} {f : Option τ} {ev' : τ' → Option Value} {eg' : τ' → List (Nat × Nat)} {em' : τ' → Mem}
theorem z_sld {p : Program} {l : Launch} {e : Env} {s : State} {m : MethodId} {below : List Frame} {meth : Method} {c : Code} {b Ls K N k : Nat} {xs : Nat → Int32} {i : Int32} {rest : List Value} (C0 : lw_At p s m meth c b Ls xs) (hwz : wz w = s.heap.size) (hx : Ok own nL ret' fr lo w (xat (lx p l e s m below meth c b) K N)) (hdg : decode (xc (lx p l e s m below meth c b)).code pc = .ok (.iaload, 1)) (hi : inb i Ls = true) (hk : ix i = k) (hp : pc + 1 = pc') (kk : C (xat (lx p l e s m below meth c b) K N) w Q nL pc' L (.int (xs k) :: rest) M f) : C (xat (lx p l e s m below meth c b) K N) w Q nL pc L (.int i :: .ref b :: rest) M f := by
  subst hp hk
  intro t9 ht H locs ls hH hS hl
  exact va_sld hx.1 rfl C0.2.2.2.2.2.2.1 C0.2.2.2.2.2.2.2.1 (by show ¬ wz w ≤ b; rw [hwz]; exact Nat.not_le.mpr C0.2.2.2.2.2.2.2.1) hS (inb_in hi) hdg (kk t9 ht H locs ls hH hS hl)
theorem z_slen {p : Program} {l : Launch} {e : Env} {s : State} {m : MethodId} {below : List Frame} {meth : Method} {c : Code} {b Ls K N : Nat} {xs : Nat → Int32} {rest : List Value} (C0 : lw_At p s m meth c b Ls xs) (hwz : wz w = s.heap.size) (hx : Ok own nL ret' fr lo w (xat (lx p l e s m below meth c b) K N)) (hdg : decode (xc (lx p l e s m below meth c b)).code pc = .ok (.arraylength, 1)) (hp : pc + 1 = pc') (kk : C (xat (lx p l e s m below meth c b) K N) w Q nL pc' L (.int (Int32.ofNat Ls) :: rest) M f) : C (xat (lx p l e s m below meth c b) K N) w Q nL pc L (.ref b :: rest) M f := by
  subst hp
  intro t9 ht H locs ls hH hS hl
  exact va_slen hx.1 rfl C0.2.2.2.2.2.2.1 C0.2.2.2.2.2.2.2.1 (by show ¬ wz w ≤ b; rw [hwz]; exact Nat.not_le.mpr C0.2.2.2.2.2.2.2.1) hS hdg (kk t9 ht H locs ls hH hS hl)
theorem z_iceq {x1 : Int32} {off : Int} {tgt : Nat} {rest : List Value} (hx : Ok own nL ret' fr lo w x) (hdg : decode (xc x).code pc = .ok (.if_icmp .eq off, 3)) (ht : (pc : Int) + off = (tgt : Int)) (_ : pc = pc) (k : C x w Q nL tgt L rest M f) : C x w Q nL pc L (.int x1 :: .int x1 :: rest) M f := by
  have e := r_icmp_eq (x1 := x1) (y1 := x1) (tgt := tgt) (g := none) hx hdg ht (fun _ => k) rfl (fun q => absurd rfl q)
  rwa [if_pos rfl] at e
theorem z_lceq {x1 : Int64} {off : Int} {tgt : Nat} {rest : List Value} (hx : Ok own nL ret' fr lo w x) (hd0 : decode (xc x).code pc = .ok (.lcmp, 1)) (hdg : decode (xc x).code (pc + 1) = .ok (.ifCond .eq off, 3)) (ht : ((pc + 1 : Nat) : Int) + off = (tgt : Int)) (_ : pc = pc) (k : C x w Q nL tgt L rest M f) : C x w Q nL pc L (.long x1 :: .long x1 :: rest) M f := by
  have e := r_lcmp_eq (x1 := x1) (y1 := x1) (tgt := tgt) (g := none) hx hd0 hdg ht (fun _ => k) rfl (fun q => absurd rfl q)
  rwa [if_pos rfl] at e
theorem z_callK {idx n fr' lo' nL' b ci nn : Nat} {y : MethodName} {cc' : ByteArray} {rt : Option FieldType} {As rest st0 : List Value} {g : Option τ'} {r : τ'} (hx : Ok own nL ret' fr lo w x) (hdg : decode (xc x).code pc = .ok (.invokevirtual idx, 3)) (hmd : MD y cc' nL' rt n) (hin : Cond.instanceMethod y ∈ UW) (hse : Cond.selects y.cls y y ∈ UW) (hlk : Cond.methodLink own idx y ∈ UW) (hct : Ct (xl x) w y cc' nL' rt fr' lo' ev' em' (.ref b :: As) M g) (hg : g = some r) (hb : Wat w b ci nn) (hcl : (cls[ci]?).map (fun q => q.1) = some y.cls) (hc : ci < 20) (hR : fr' + 1 ≤ fr ∧ 8 + (nL' + 11) + lo' ≤ lo) (hst : st0 = As.reverse ++ .ref b :: rest) (hn : As.length = n) (hcat : (rest.map fun v => v.category).sum ≤ 8) (hp : pc + 3 = pc') (kk : C x w Q nL pc' L ((ev' r).toList ++ rest) (em' r) f) : C x w Q nL pc L st0 M f := by
  have e := r_callV (K := fun _ => f) hx hdg hmd hin hse hlk hct hb hcl hc hR hst hn hcat (fun t' => (ev' t').toList ++ rest) em' (fun _ => ⟨rfl, rfl⟩) hp (fun t' h => by cases hg.symm.trans h; exact kk)
  rw [hg] at e
  exact e
theorem z_callG {K N kc ks idx n fr' lo' nL' b ci nn : Nat} {y : MethodName} {cc' : ByteArray} {rt : Option FieldType} {As rest st0 : List Value} {g : Nat → Option τ'} (hx : Ok own nL ret' fr lo w (xat x K N)) (hdg : decode (xc x).code pc = .ok (.invokevirtual idx, 3)) (hmd : MD y cc' nL' rt n) (hin : Cond.instanceMethod y ∈ UW) (hse : Cond.selects y.cls y y ∈ UW) (hlk : Cond.methodLink own idx y ∈ UW) (hct : ∀ a, Bel w a → wz w ≤ a → CtG (xl x) w a y cc' nL' rt fr' lo' kc ks ev' eg' em' (.ref b :: As) M (g a)) (hb : Wat w b ci nn) (hcl : (cls[ci]?).map (fun q => q.1) = some y.cls) (hc : ci < 20) (hR : fr' + 1 ≤ fr ∧ 8 + (nL' + 11) + lo' ≤ lo) (hst : st0 = As.reverse ++ .ref b :: rest) (hn : As.length = n) (hcat : (rest.map fun v => v.category).sum ≤ 8) (hkn : K + kc ≤ (xR x).cells ∧ N + ks ≤ (xR x).slots) (hp : pc + 3 = pc') (hg : ∀ a, Bel w a → wz w ≤ a → ∃ t', g a = some t') (kk : ∀ a t', Bel w a → wz w ≤ a → g a = some t' → C (xat x (K + kc) (N + ks)) (wg w a (eg' t')) Q nL pc' L ((ev' t').toList ++ rest) (em' t') f) : C (xat x K N) w Q nL pc L st0 M f := by
  subst hp
  intro t9 ht H locs ls hH hS hl
  have hcell : ∃ cellB : Cell, H[b]? = some cellB ∧ cellB.vm.isStatics = false ∧ (xs_ x).vm.findClass y.cls = some cellB.cls := by
    obtain ⟨q0, hq⟩ := wcl_get (M := M) hb.1
    rw [hb.obj hc] at hq
    cases hcc : cls[ci]? with
    | none => rw [hcc] at hcl; cases hcl
    | some r =>
      rw [hcc] at hcl
      have e : r.1 = y.cls := Option.some.inj hcl
      obtain ⟨cell, g1, g2, g3⟩ := va_recv hx.2.2.2.1.2.1 hH.1 hcc hq
      exact ⟨cell, g1, g2, by rw [← e]; exact g3⟩
  have hbl : Bel w H.size := bel_hol hH
  have hz : wz w ≤ H.size := Nat.le_trans hx.2.2.2.1.1 hS.1
  obtain ⟨t', hgt⟩ := hg H.size hbl hz
  have hpre : ∀ U : State, U.heap = H → (xs_ x).WarmedH U.vm → PcG w H.size (.ref b :: As) M (Value.ref b :: As).toArray U := by
    intro U hU hW
    exact ⟨rfl, by rw [hU], by rw [hU]; exact hH, hx.2.2.2.1.moved hW.alike (fun _ _ _ _ h => vk_R.warm hW h) (by rw [hU]; exact hS.1) (fun a h1 h2 => by rw [hU]; exact hS.2.1 a h1 h2)⟩
  have hrun : va_Run (xp x) (xl x) (xe x) (xR x) (xs_ x) (xm x) (xa x) (xb x) (xt x) (xc x) H locs K N kc ks (F0 (xm x) pc ls st0) rest (QcG w H.size (ev' t') (eg' t') (em' t') (Value.ref b :: As).toArray) (A0 w) := va_runV (nL := nL) ⟨hx.1, rfl, hx.2.2.2.2.2.2.2, hx.2.1, hx.2.2.1⟩ (hct H.size hbl hz t' hgt) ⟨mkBI (x := xat x K N) hx hmd hlk hR, hx.2.2.1 _ hin, hx.2.2.1 _ hse⟩ ⟨PcG.blind _ _ _ M, hcell, hpre⟩ rfl hn hl.1 hst (lv_room hcat) hdg hkn
  intro T hT X
  obtain ⟨v, st₀, t1, T', Lc, h0, X', hL, e1, e2, ⟨hv, hH1, hF1⟩, st⟩ := hrun T hT X
  cases hv
  have hzz : H.size ≤ T'.heap.size := by rw [e1, ← h0]; exact hF1.1
  have hkp : ∀ q : Nat, q < H.size → ¬ A0 w q → T'.heap[q]? = H[q]? := fun q h1 h2 => by rw [e1, ← h0]; exact hF1.2 q (by rw [h0]; exact h1) h2
  have kk1 := kk H.size t' hbl hz hgt t9 ht T'.heap (locs ++ Lc) ls (by rw [e1]; exact hH1) ⟨Nat.le_trans hS.1 hzz, fun q h1 h2 => by rw [hkp q (Nat.lt_of_lt_of_le h1 hS.1) h2]; exact hS.2.1 q h1 h2, fun q hq => by
    rcases List.mem_append.mp hq with h | h
    · exact hS.2.2 q h
    · exact hL q h⟩ hl
  obtain ⟨t2, a1, b1⟩ := kk1 T' rfl X'
  exact ⟨t2, st t2 a1, b1⟩
end RL
set_option maxRecDepth 20000 in
theorem lp_card {p : Program} {l : Launch} {e : Env} {s : State} {m : MethodId} {below : List Frame} {meth : Method} {c : Code} {b L : Nat} {xs : Nat → Int32} {Inv : Nat → Nat → Nat → Mem → Prop} (hL3 : L ≤ 3072) (C0 : lw_At p s m meth c b L xs) (hSt : St_card Inv) (t u i K N : Nat) (hi : i + 6 ≤ L) (nx : LpN p l e s m below meth c b L Inv t u (i + 6) (K + 3) (N + 877)) : LpB p l e s m below meth c b L Inv t u i K N 196 := by
  intro w M T hx hwz hLy ht hu hT hI
  have hd : ∀ i, DAt (xc (lx p l e s m below meth c b)).code (tbL[i]?) := fun i => by show DAt c.code _; rw [C0.2.1]; exact dat_of dL i
  obtain ⟨v, M1, M2, h1, h2, hI2⟩ := hSt t u T M (xs (i + 1)) (xs (i + 2)) hI
  refine r_aload_n (pc' := 197) hx (hd 22) rfl 1 rfl rfl ?_
  refine r_aload_n (pc' := 198) hx (hd 23) rfl 0 rfl rfl ?_
  refine r_iload_n (pc' := 199) hx (hd 24) rfl 3 rfl rfl ?_
  refine r_iconst (pc' := 200) (v := 1) hx (hd 25) (by decide) rfl ?_
  refine r_iadd (pc' := 201) hx (hd 26) rfl ?_
  refine z_sld (pc' := 202) (k := i + 1) C0 hwz hx (hd 27) (lj hL3 (v := 1) (j := 1) (by decide) (by omega)).1 (lj hL3 (v := 1) (j := 1) (by decide) (by omega)).2 rfl ?_
  refine r_aload_n (pc' := 203) hx (hd 28) rfl 0 rfl rfl ?_
  refine r_iload_n (pc' := 204) hx (hd 29) rfl 3 rfl rfl ?_
  refine r_iconst (pc' := 205) (v := 2) hx (hd 30) (by decide) rfl ?_
  refine r_iadd (pc' := 206) hx (hd 31) rfl ?_
  refine z_sld (pc' := 207) (k := i + 2) C0 hwz hx (hd 32) (lj hL3 (v := 2) (j := 2) (by decide) (by omega)).1 (lj hL3 (v := 2) (j := 2) (by decide) (by omega)).2 rfl ?_
  refine z_callK (pc' := 210) (As := [.int (xs (i + 1)), .int (xs (i + 2))]) (rest := []) hx (hd 33) md_X11_card mi_X11_card ms_X11_card mlL_13 (cX11_card l _ hLy t ht (xs (i + 1)) (xs (i + 2)) M) h1 ht rfl (by decide) ⟨Nat.le_of_ble_eq_true rfl, Nat.le_of_ble_eq_true rfl⟩ rfl rfl (Nat.le_of_ble_eq_true rfl) rfl ?_
  show C _ w _ 4 210 [(0, .ref b), (1, .ref t), (2, .ref u), (3, .int (Int32.ofNat i))] [.int v] M1 (some ())
  refine r_aload_n (pc' := 211) hx (hd 34) rfl 2 rfl rfl ?_
  refine r_aload_n (pc' := 212) hx (hd 35) rfl 0 rfl rfl ?_
  refine r_iload_n (pc' := 213) hx (hd 36) rfl 3 rfl rfl ?_
  refine r_iconst (pc' := 214) (v := 1) hx (hd 37) (by decide) rfl ?_
  refine r_iadd (pc' := 215) hx (hd 38) rfl ?_
  refine z_sld (pc' := 216) (k := i + 1) C0 hwz hx (hd 39) (lj hL3 (v := 1) (j := 1) (by decide) (by omega)).1 (lj hL3 (v := 1) (j := 1) (by decide) (by omega)).2 rfl ?_
  refine r_aload_n (pc' := 217) hx (hd 40) rfl 0 rfl rfl ?_
  refine r_iload_n (pc' := 218) hx (hd 41) rfl 3 rfl rfl ?_
  refine r_iconst (pc' := 219) (v := 2) hx (hd 42) (by decide) rfl ?_
  refine r_iadd (pc' := 220) hx (hd 43) rfl ?_
  refine z_sld (pc' := 221) (k := i + 2) C0 hwz hx (hd 44) (lj hL3 (v := 2) (j := 2) (by decide) (by omega)).1 (lj hL3 (v := 2) (j := 2) (by decide) (by omega)).2 rfl ?_
  refine z_callK (pc' := 224) (As := [.int (xs (i + 1)), .int (xs (i + 2))]) (rest := [.int v]) hx (hd 45) md_X12_card mi_X12_card ms_X12_card mlL_17 (cX12_card l _ hLy u hu (xs (i + 1)) (xs (i + 2)) M1) h2 hu rfl (by decide) ⟨Nat.le_of_ble_eq_true rfl, Nat.le_of_ble_eq_true rfl⟩ rfl rfl (Nat.le_of_ble_eq_true rfl) rfl ?_
  show C _ w _ 4 224 [(0, .ref b), (1, .ref t), (2, .ref u), (3, .int (Int32.ofNat i))] [.int v, .int v] M2 (some ())
  refine z_iceq (tgt := 1089) hx (hd 46) (by decide) rfl ?_
  refine z_iinc (pc' := 1092) (v := Int32.ofNat (i + 6)) (L' := [(3, .int (Int32.ofNat (i + 6))), (0, .ref b), (1, .ref t), (2, .ref u)]) (j := 3) hx (hd 693) rfl (l6 (by omega)) (by decide) rfl rfl ?_
  refine r_goto (tgt := 18) hx (hd 694) (by decide) ?_
  refine r_sub [1, 2, 3, 0] rfl ?_
  exact nx.le (by omega) (by omega) w M2 T hx hwz hLy ht hu hT hI2
set_option maxRecDepth 20000 in
theorem lp_hand {p : Program} {l : Launch} {e : Env} {s : State} {m : MethodId} {below : List Frame} {meth : Method} {c : Code} {b L : Nat} {xs : Nat → Int32} {Inv : Nat → Nat → Nat → Mem → Prop} (hL3 : L ≤ 3072) (C0 : lw_At p s m meth c b L xs) (hSt : St_hand Inv) (t u i K N : Nat) (hi : i + 6 ≤ L) (nx : LpN p l e s m below meth c b L Inv t u (i + 6) (K + 3) (N + 877)) : LpB p l e s m below meth c b L Inv t u i K N 229 := by
  intro w M T hx hwz hLy ht hu hT hI
  have hd : ∀ i, DAt (xc (lx p l e s m below meth c b)).code (tbL[i]?) := fun i => by show DAt c.code _; rw [C0.2.1]; exact dat_of dL i
  obtain ⟨v, M2, h1, h2, hI2⟩ := hSt t u T M (xs (i + 1)) (xs (i + 2)) hI
  refine r_aload_n (pc' := 230) hx (hd 49) rfl 1 rfl rfl ?_
  refine r_aload_n (pc' := 231) hx (hd 50) rfl 0 rfl rfl ?_
  refine r_iload_n (pc' := 232) hx (hd 51) rfl 3 rfl rfl ?_
  refine r_iconst (pc' := 233) (v := 1) hx (hd 52) (by decide) rfl ?_
  refine r_iadd (pc' := 234) hx (hd 53) rfl ?_
  refine z_sld (pc' := 235) (k := i + 1) C0 hwz hx (hd 54) (lj hL3 (v := 1) (j := 1) (by decide) (by omega)).1 (lj hL3 (v := 1) (j := 1) (by decide) (by omega)).2 rfl ?_
  refine r_aload_n (pc' := 236) hx (hd 55) rfl 0 rfl rfl ?_
  refine r_iload_n (pc' := 237) hx (hd 56) rfl 3 rfl rfl ?_
  refine r_iconst (pc' := 238) (v := 2) hx (hd 57) (by decide) rfl ?_
  refine r_iadd (pc' := 239) hx (hd 58) rfl ?_
  refine z_sld (pc' := 240) (k := i + 2) C0 hwz hx (hd 59) (lj hL3 (v := 2) (j := 2) (by decide) (by omega)).1 (lj hL3 (v := 2) (j := 2) (by decide) (by omega)).2 rfl ?_
  refine z_callK (pc' := 243) (As := [.int (xs (i + 1)), .int (xs (i + 2))]) (rest := []) hx (hd 60) md_X11_hand mi_X11_hand ms_X11_hand mlL_18 (cX11_hand l _ hLy t ht (xs (i + 1)) (xs (i + 2)) M) h1 ht rfl (by decide) ⟨Nat.le_of_ble_eq_true rfl, Nat.le_of_ble_eq_true rfl⟩ rfl rfl (Nat.le_of_ble_eq_true rfl) rfl ?_
  show C _ w _ 4 243 [(0, .ref b), (1, .ref t), (2, .ref u), (3, .int (Int32.ofNat i))] [.int v] M (some ())
  refine r_aload_n (pc' := 244) hx (hd 61) rfl 2 rfl rfl ?_
  refine r_aload_n (pc' := 245) hx (hd 62) rfl 0 rfl rfl ?_
  refine r_iload_n (pc' := 246) hx (hd 63) rfl 3 rfl rfl ?_
  refine r_iconst (pc' := 247) (v := 1) hx (hd 64) (by decide) rfl ?_
  refine r_iadd (pc' := 248) hx (hd 65) rfl ?_
  refine z_sld (pc' := 249) (k := i + 1) C0 hwz hx (hd 66) (lj hL3 (v := 1) (j := 1) (by decide) (by omega)).1 (lj hL3 (v := 1) (j := 1) (by decide) (by omega)).2 rfl ?_
  refine r_aload_n (pc' := 250) hx (hd 67) rfl 0 rfl rfl ?_
  refine r_iload_n (pc' := 251) hx (hd 68) rfl 3 rfl rfl ?_
  refine r_iconst (pc' := 252) (v := 2) hx (hd 69) (by decide) rfl ?_
  refine r_iadd (pc' := 253) hx (hd 70) rfl ?_
  refine z_sld (pc' := 254) (k := i + 2) C0 hwz hx (hd 71) (lj hL3 (v := 2) (j := 2) (by decide) (by omega)).1 (lj hL3 (v := 2) (j := 2) (by decide) (by omega)).2 rfl ?_
  refine z_callK (pc' := 257) (As := [.int (xs (i + 1)), .int (xs (i + 2))]) (rest := [.int v]) hx (hd 72) md_X12_hand mi_X12_hand ms_X12_hand mlL_21 (cX12_hand l _ hLy u hu (xs (i + 1)) (xs (i + 2)) M) h2 hu rfl (by decide) ⟨Nat.le_of_ble_eq_true rfl, Nat.le_of_ble_eq_true rfl⟩ rfl rfl (Nat.le_of_ble_eq_true rfl) rfl ?_
  show C _ w _ 4 257 [(0, .ref b), (1, .ref t), (2, .ref u), (3, .int (Int32.ofNat i))] [.int v, .int v] M2 (some ())
  refine z_iceq (tgt := 1089) hx (hd 73) (by decide) rfl ?_
  refine z_iinc (pc' := 1092) (v := Int32.ofNat (i + 6)) (L' := [(3, .int (Int32.ofNat (i + 6))), (0, .ref b), (1, .ref t), (2, .ref u)]) (j := 3) hx (hd 693) rfl (l6 (by omega)) (by decide) rfl rfl ?_
  refine r_goto (tgt := 18) hx (hd 694) (by decide) ?_
  refine r_sub [1, 2, 3, 0] rfl ?_
  exact nx.le (by omega) (by omega) w M2 T hx hwz hLy ht hu hT hI2
set_option maxRecDepth 20000 in
theorem lp_terms {p : Program} {l : Launch} {e : Env} {s : State} {m : MethodId} {below : List Frame} {meth : Method} {c : Code} {b L : Nat} {xs : Nat → Int32} {Inv : Nat → Nat → Nat → Mem → Prop} (hL3 : L ≤ 3072) (C0 : lw_At p s m meth c b L xs) (hSt : St_terms Inv) (t u i K N : Nat) (hi : i + 6 ≤ L) (nx : LpN p l e s m below meth c b L Inv t u (i + 6) (K + 3) (N + 877)) : LpB p l e s m below meth c b L Inv t u i K N 262 := by
  intro w M T hx hwz hLy ht hu hT hI
  have hd : ∀ i, DAt (xc (lx p l e s m below meth c b)).code (tbL[i]?) := fun i => by show DAt c.code _; rw [C0.2.1]; exact dat_of dL i
  obtain ⟨v, M1, M2, h1, h2, hI2⟩ := hSt t u T M (xs (i + 1)) (xs (i + 2)) hI
  refine r_aload_n (pc' := 263) hx (hd 76) rfl 1 rfl rfl ?_
  refine r_aload_n (pc' := 264) hx (hd 77) rfl 0 rfl rfl ?_
  refine r_iload_n (pc' := 265) hx (hd 78) rfl 3 rfl rfl ?_
  refine r_iconst (pc' := 266) (v := 1) hx (hd 79) (by decide) rfl ?_
  refine r_iadd (pc' := 267) hx (hd 80) rfl ?_
  refine z_sld (pc' := 268) (k := i + 1) C0 hwz hx (hd 81) (lj hL3 (v := 1) (j := 1) (by decide) (by omega)).1 (lj hL3 (v := 1) (j := 1) (by decide) (by omega)).2 rfl ?_
  refine r_aload_n (pc' := 269) hx (hd 82) rfl 0 rfl rfl ?_
  refine r_iload_n (pc' := 270) hx (hd 83) rfl 3 rfl rfl ?_
  refine r_iconst (pc' := 271) (v := 2) hx (hd 84) (by decide) rfl ?_
  refine r_iadd (pc' := 272) hx (hd 85) rfl ?_
  refine z_sld (pc' := 273) (k := i + 2) C0 hwz hx (hd 86) (lj hL3 (v := 2) (j := 2) (by decide) (by omega)).1 (lj hL3 (v := 2) (j := 2) (by decide) (by omega)).2 rfl ?_
  refine z_callK (pc' := 276) (As := [.int (xs (i + 1)), .int (xs (i + 2))]) (rest := []) hx (hd 87) md_X11_terms mi_X11_terms ms_X11_terms mlL_22 (cX11_terms l _ hLy t ht (xs (i + 1)) (xs (i + 2)) M) h1 ht rfl (by decide) ⟨Nat.le_of_ble_eq_true rfl, Nat.le_of_ble_eq_true rfl⟩ rfl rfl (Nat.le_of_ble_eq_true rfl) rfl ?_
  show C _ w _ 4 276 [(0, .ref b), (1, .ref t), (2, .ref u), (3, .int (Int32.ofNat i))] [.int v] M1 (some ())
  refine r_aload_n (pc' := 277) hx (hd 88) rfl 2 rfl rfl ?_
  refine r_aload_n (pc' := 278) hx (hd 89) rfl 0 rfl rfl ?_
  refine r_iload_n (pc' := 279) hx (hd 90) rfl 3 rfl rfl ?_
  refine r_iconst (pc' := 280) (v := 1) hx (hd 91) (by decide) rfl ?_
  refine r_iadd (pc' := 281) hx (hd 92) rfl ?_
  refine z_sld (pc' := 282) (k := i + 1) C0 hwz hx (hd 93) (lj hL3 (v := 1) (j := 1) (by decide) (by omega)).1 (lj hL3 (v := 1) (j := 1) (by decide) (by omega)).2 rfl ?_
  refine r_aload_n (pc' := 283) hx (hd 94) rfl 0 rfl rfl ?_
  refine r_iload_n (pc' := 284) hx (hd 95) rfl 3 rfl rfl ?_
  refine r_iconst (pc' := 285) (v := 2) hx (hd 96) (by decide) rfl ?_
  refine r_iadd (pc' := 286) hx (hd 97) rfl ?_
  refine z_sld (pc' := 287) (k := i + 2) C0 hwz hx (hd 98) (lj hL3 (v := 2) (j := 2) (by decide) (by omega)).1 (lj hL3 (v := 2) (j := 2) (by decide) (by omega)).2 rfl ?_
  refine z_callK (pc' := 290) (As := [.int (xs (i + 1)), .int (xs (i + 2))]) (rest := [.int v]) hx (hd 99) md_X12_terms mi_X12_terms ms_X12_terms mlL_25 (cX12_terms l _ hLy u hu (xs (i + 1)) (xs (i + 2)) M1) h2 hu rfl (by decide) ⟨Nat.le_of_ble_eq_true rfl, Nat.le_of_ble_eq_true rfl⟩ rfl rfl (Nat.le_of_ble_eq_true rfl) rfl ?_
  show C _ w _ 4 290 [(0, .ref b), (1, .ref t), (2, .ref u), (3, .int (Int32.ofNat i))] [.int v, .int v] M2 (some ())
  refine z_iceq (tgt := 1089) hx (hd 100) (by decide) rfl ?_
  refine z_iinc (pc' := 1092) (v := Int32.ofNat (i + 6)) (L' := [(3, .int (Int32.ofNat (i + 6))), (0, .ref b), (1, .ref t), (2, .ref u)]) (j := 3) hx (hd 693) rfl (l6 (by omega)) (by decide) rfl rfl ?_
  refine r_goto (tgt := 18) hx (hd 694) (by decide) ?_
  refine r_sub [1, 2, 3, 0] rfl ?_
  exact nx.le (by omega) (by omega) w M2 T hx hwz hLy ht hu hT hI2
set_option maxRecDepth 20000 in
theorem lp_feed {p : Program} {l : Launch} {e : Env} {s : State} {m : MethodId} {below : List Frame} {meth : Method} {c : Code} {b L : Nat} {xs : Nat → Int32} {Inv : Nat → Nat → Nat → Mem → Prop} (hL3 : L ≤ 3072) (C0 : lw_At p s m meth c b L xs) (hSt : St_feed Inv) (t u i K N : Nat) (hi : i + 6 ≤ L) (nx : LpN p l e s m below meth c b L Inv t u (i + 6) (K + 3) (N + 877)) : LpB p l e s m below meth c b L Inv t u i K N 295 := by
  intro w M T hx hwz hLy ht hu hT hI
  have hd : ∀ i, DAt (xc (lx p l e s m below meth c b)).code (tbL[i]?) := fun i => by show DAt c.code _; rw [C0.2.1]; exact dat_of dL i
  obtain ⟨v, M1, M2, h1, h2, hI2⟩ := hSt t u T M (xs (i + 1)) (xs (i + 2)) (xs (i + 3)) (xs (i + 4)) (xs (i + 5)) hI
  refine r_aload_n (pc' := 296) hx (hd 103) rfl 1 rfl rfl ?_
  refine r_aload_n (pc' := 297) hx (hd 104) rfl 0 rfl rfl ?_
  refine r_iload_n (pc' := 298) hx (hd 105) rfl 3 rfl rfl ?_
  refine r_iconst (pc' := 299) (v := 1) hx (hd 106) (by decide) rfl ?_
  refine r_iadd (pc' := 300) hx (hd 107) rfl ?_
  refine z_sld (pc' := 301) (k := i + 1) C0 hwz hx (hd 108) (lj hL3 (v := 1) (j := 1) (by decide) (by omega)).1 (lj hL3 (v := 1) (j := 1) (by decide) (by omega)).2 rfl ?_
  refine r_aload_n (pc' := 302) hx (hd 109) rfl 0 rfl rfl ?_
  refine r_iload_n (pc' := 303) hx (hd 110) rfl 3 rfl rfl ?_
  refine r_iconst (pc' := 304) (v := 2) hx (hd 111) (by decide) rfl ?_
  refine r_iadd (pc' := 305) hx (hd 112) rfl ?_
  refine z_sld (pc' := 306) (k := i + 2) C0 hwz hx (hd 113) (lj hL3 (v := 2) (j := 2) (by decide) (by omega)).1 (lj hL3 (v := 2) (j := 2) (by decide) (by omega)).2 rfl ?_
  refine r_aload_n (pc' := 307) hx (hd 114) rfl 0 rfl rfl ?_
  refine r_iload_n (pc' := 308) hx (hd 115) rfl 3 rfl rfl ?_
  refine r_iconst (pc' := 309) (v := 3) hx (hd 116) (by decide) rfl ?_
  refine r_iadd (pc' := 310) hx (hd 117) rfl ?_
  refine z_sld (pc' := 311) (k := i + 3) C0 hwz hx (hd 118) (lj hL3 (v := 3) (j := 3) (by decide) (by omega)).1 (lj hL3 (v := 3) (j := 3) (by decide) (by omega)).2 rfl ?_
  refine r_aload_n (pc' := 312) hx (hd 119) rfl 0 rfl rfl ?_
  refine r_iload_n (pc' := 313) hx (hd 120) rfl 3 rfl rfl ?_
  refine r_iconst (pc' := 314) (v := 4) hx (hd 121) (by decide) rfl ?_
  refine r_iadd (pc' := 315) hx (hd 122) rfl ?_
  refine z_sld (pc' := 316) (k := i + 4) C0 hwz hx (hd 123) (lj hL3 (v := 4) (j := 4) (by decide) (by omega)).1 (lj hL3 (v := 4) (j := 4) (by decide) (by omega)).2 rfl ?_
  refine r_aload_n (pc' := 317) hx (hd 124) rfl 0 rfl rfl ?_
  refine r_iload_n (pc' := 318) hx (hd 125) rfl 3 rfl rfl ?_
  refine r_iconst (pc' := 319) (v := 5) hx (hd 126) (by decide) rfl ?_
  refine r_iadd (pc' := 320) hx (hd 127) rfl ?_
  refine z_sld (pc' := 321) (k := i + 5) C0 hwz hx (hd 128) (lj hL3 (v := 5) (j := 5) (by decide) (by omega)).1 (lj hL3 (v := 5) (j := 5) (by decide) (by omega)).2 rfl ?_
  refine z_callK (pc' := 324) (As := [.int (xs (i + 1)), .int (xs (i + 2)), .int (xs (i + 3)), .int (xs (i + 4)), .int (xs (i + 5))]) (rest := []) hx (hd 129) md_X11_feed mi_X11_feed ms_X11_feed mlL_26 (cX11_feed l _ hLy t ht (xs (i + 1)) (xs (i + 2)) (xs (i + 3)) (xs (i + 4)) (xs (i + 5)) M) h1 ht rfl (by decide) ⟨Nat.le_of_ble_eq_true rfl, Nat.le_of_ble_eq_true rfl⟩ rfl rfl (Nat.le_of_ble_eq_true rfl) rfl ?_
  show C _ w _ 4 324 [(0, .ref b), (1, .ref t), (2, .ref u), (3, .int (Int32.ofNat i))] [.int v] M1 (some ())
  refine r_aload_n (pc' := 325) hx (hd 130) rfl 2 rfl rfl ?_
  refine r_aload_n (pc' := 326) hx (hd 131) rfl 0 rfl rfl ?_
  refine r_iload_n (pc' := 327) hx (hd 132) rfl 3 rfl rfl ?_
  refine r_iconst (pc' := 328) (v := 1) hx (hd 133) (by decide) rfl ?_
  refine r_iadd (pc' := 329) hx (hd 134) rfl ?_
  refine z_sld (pc' := 330) (k := i + 1) C0 hwz hx (hd 135) (lj hL3 (v := 1) (j := 1) (by decide) (by omega)).1 (lj hL3 (v := 1) (j := 1) (by decide) (by omega)).2 rfl ?_
  refine r_aload_n (pc' := 331) hx (hd 136) rfl 0 rfl rfl ?_
  refine r_iload_n (pc' := 332) hx (hd 137) rfl 3 rfl rfl ?_
  refine r_iconst (pc' := 333) (v := 2) hx (hd 138) (by decide) rfl ?_
  refine r_iadd (pc' := 334) hx (hd 139) rfl ?_
  refine z_sld (pc' := 335) (k := i + 2) C0 hwz hx (hd 140) (lj hL3 (v := 2) (j := 2) (by decide) (by omega)).1 (lj hL3 (v := 2) (j := 2) (by decide) (by omega)).2 rfl ?_
  refine r_aload_n (pc' := 336) hx (hd 141) rfl 0 rfl rfl ?_
  refine r_iload_n (pc' := 337) hx (hd 142) rfl 3 rfl rfl ?_
  refine r_iconst (pc' := 338) (v := 3) hx (hd 143) (by decide) rfl ?_
  refine r_iadd (pc' := 339) hx (hd 144) rfl ?_
  refine z_sld (pc' := 340) (k := i + 3) C0 hwz hx (hd 145) (lj hL3 (v := 3) (j := 3) (by decide) (by omega)).1 (lj hL3 (v := 3) (j := 3) (by decide) (by omega)).2 rfl ?_
  refine r_aload_n (pc' := 341) hx (hd 146) rfl 0 rfl rfl ?_
  refine r_iload_n (pc' := 342) hx (hd 147) rfl 3 rfl rfl ?_
  refine r_iconst (pc' := 343) (v := 4) hx (hd 148) (by decide) rfl ?_
  refine r_iadd (pc' := 344) hx (hd 149) rfl ?_
  refine z_sld (pc' := 345) (k := i + 4) C0 hwz hx (hd 150) (lj hL3 (v := 4) (j := 4) (by decide) (by omega)).1 (lj hL3 (v := 4) (j := 4) (by decide) (by omega)).2 rfl ?_
  refine r_aload_n (pc' := 346) hx (hd 151) rfl 0 rfl rfl ?_
  refine r_iload_n (pc' := 347) hx (hd 152) rfl 3 rfl rfl ?_
  refine r_iconst (pc' := 348) (v := 5) hx (hd 153) (by decide) rfl ?_
  refine r_iadd (pc' := 349) hx (hd 154) rfl ?_
  refine z_sld (pc' := 350) (k := i + 5) C0 hwz hx (hd 155) (lj hL3 (v := 5) (j := 5) (by decide) (by omega)).1 (lj hL3 (v := 5) (j := 5) (by decide) (by omega)).2 rfl ?_
  refine z_callK (pc' := 353) (As := [.int (xs (i + 1)), .int (xs (i + 2)), .int (xs (i + 3)), .int (xs (i + 4)), .int (xs (i + 5))]) (rest := [.int v]) hx (hd 156) md_X12_feed mi_X12_feed ms_X12_feed mlL_30 (cX12_feed l _ hLy u hu (xs (i + 1)) (xs (i + 2)) (xs (i + 3)) (xs (i + 4)) (xs (i + 5)) M1) h2 hu rfl (by decide) ⟨Nat.le_of_ble_eq_true rfl, Nat.le_of_ble_eq_true rfl⟩ rfl rfl (Nat.le_of_ble_eq_true rfl) rfl ?_
  show C _ w _ 4 353 [(0, .ref b), (1, .ref t), (2, .ref u), (3, .int (Int32.ofNat i))] [.int v, .int v] M2 (some ())
  refine z_iceq (tgt := 1089) hx (hd 157) (by decide) rfl ?_
  refine z_iinc (pc' := 1092) (v := Int32.ofNat (i + 6)) (L' := [(3, .int (Int32.ofNat (i + 6))), (0, .ref b), (1, .ref t), (2, .ref u)]) (j := 3) hx (hd 693) rfl (l6 (by omega)) (by decide) rfl rfl ?_
  refine r_goto (tgt := 18) hx (hd 694) (by decide) ?_
  refine r_sub [1, 2, 3, 0] rfl ?_
  exact nx.le (by omega) (by omega) w M2 T hx hwz hLy ht hu hT hI2
set_option maxRecDepth 20000 in
theorem lp_end {p : Program} {l : Launch} {e : Env} {s : State} {m : MethodId} {below : List Frame} {meth : Method} {c : Code} {b L : Nat} {xs : Nat → Int32} {Inv : Nat → Nat → Nat → Mem → Prop} (hL3 : L ≤ 3072) (C0 : lw_At p s m meth c b L xs) (hSt : St_end Inv) (t u i K N : Nat) (hi : i + 6 ≤ L) (nx : LpN p l e s m below meth c b L Inv t u (i + 6) (K + 3) (N + 877)) : LpB p l e s m below meth c b L Inv t u i K N 358 := by
  intro w M T hx hwz hLy ht hu hT hI
  have hd : ∀ i, DAt (xc (lx p l e s m below meth c b)).code (tbL[i]?) := fun i => by show DAt c.code _; rw [C0.2.1]; exact dat_of dL i
  obtain ⟨v, M1, M2, h1, h2, hI2⟩ := hSt t u T M (xs (i + 1)) hI
  refine r_aload_n (pc' := 359) hx (hd 160) rfl 1 rfl rfl ?_
  refine r_aload_n (pc' := 360) hx (hd 161) rfl 0 rfl rfl ?_
  refine r_iload_n (pc' := 361) hx (hd 162) rfl 3 rfl rfl ?_
  refine r_iconst (pc' := 362) (v := 1) hx (hd 163) (by decide) rfl ?_
  refine r_iadd (pc' := 363) hx (hd 164) rfl ?_
  refine z_sld (pc' := 364) (k := i + 1) C0 hwz hx (hd 165) (lj hL3 (v := 1) (j := 1) (by decide) (by omega)).1 (lj hL3 (v := 1) (j := 1) (by decide) (by omega)).2 rfl ?_
  refine z_callK (pc' := 367) (As := [.int (xs (i + 1))]) (rest := []) hx (hd 166) md_X11_end mi_X11_end ms_X11_end mlL_31 (cX11_end l _ hLy t ht (xs (i + 1)) M) h1 ht rfl (by decide) ⟨Nat.le_of_ble_eq_true rfl, Nat.le_of_ble_eq_true rfl⟩ rfl rfl (Nat.le_of_ble_eq_true rfl) rfl ?_
  show C _ w _ 4 367 [(0, .ref b), (1, .ref t), (2, .ref u), (3, .int (Int32.ofNat i))] [.int v] M1 (some ())
  refine r_aload_n (pc' := 368) hx (hd 167) rfl 2 rfl rfl ?_
  refine r_aload_n (pc' := 369) hx (hd 168) rfl 0 rfl rfl ?_
  refine r_iload_n (pc' := 370) hx (hd 169) rfl 3 rfl rfl ?_
  refine r_iconst (pc' := 371) (v := 1) hx (hd 170) (by decide) rfl ?_
  refine r_iadd (pc' := 372) hx (hd 171) rfl ?_
  refine z_sld (pc' := 373) (k := i + 1) C0 hwz hx (hd 172) (lj hL3 (v := 1) (j := 1) (by decide) (by omega)).1 (lj hL3 (v := 1) (j := 1) (by decide) (by omega)).2 rfl ?_
  refine z_callK (pc' := 376) (As := [.int (xs (i + 1))]) (rest := [.int v]) hx (hd 173) md_X12_end mi_X12_end ms_X12_end mlL_35 (cX12_end l _ hLy u hu (xs (i + 1)) M1) h2 hu rfl (by decide) ⟨Nat.le_of_ble_eq_true rfl, Nat.le_of_ble_eq_true rfl⟩ rfl rfl (Nat.le_of_ble_eq_true rfl) rfl ?_
  show C _ w _ 4 376 [(0, .ref b), (1, .ref t), (2, .ref u), (3, .int (Int32.ofNat i))] [.int v, .int v] M2 (some ())
  refine z_iceq (tgt := 1089) hx (hd 174) (by decide) rfl ?_
  refine z_iinc (pc' := 1092) (v := Int32.ofNat (i + 6)) (L' := [(3, .int (Int32.ofNat (i + 6))), (0, .ref b), (1, .ref t), (2, .ref u)]) (j := 3) hx (hd 693) rfl (l6 (by omega)) (by decide) rfl rfl ?_
  refine r_goto (tgt := 18) hx (hd 694) (by decide) ?_
  refine r_sub [1, 2, 3, 0] rfl ?_
  exact nx.le (by omega) (by omega) w M2 T hx hwz hLy ht hu hT hI2
set_option maxRecDepth 20000 in
theorem lp_row {p : Program} {l : Launch} {e : Env} {s : State} {m : MethodId} {below : List Frame} {meth : Method} {c : Code} {b L : Nat} {xs : Nat → Int32} {Inv : Nat → Nat → Nat → Mem → Prop} (hL3 : L ≤ 3072) (C0 : lw_At p s m meth c b L xs) (hSt : St_row Inv) (t u i K N : Nat) (hi : i + 6 ≤ L) (nx : LpN p l e s m below meth c b L Inv t u (i + 6) (K + 3) (N + 877)) : LpB p l e s m below meth c b L Inv t u i K N 381 := by
  intro w M T hx hwz hLy ht hu hT hI
  have hd : ∀ i, DAt (xc (lx p l e s m below meth c b)).code (tbL[i]?) := fun i => by show DAt c.code _; rw [C0.2.1]; exact dat_of dL i
  obtain ⟨v, M1, M2, h1, h2, hI2⟩ := hSt t u T M  hI
  refine r_aload_n (pc' := 382) hx (hd 177) rfl 1 rfl rfl ?_
  refine z_callK (pc' := 385) (As := []) (rest := []) hx (hd 178) md_X11_row mi_X11_row ms_X11_row mlL_36 (cX11_row l _ hLy t ht  M) h1 ht rfl (by decide) ⟨Nat.le_of_ble_eq_true rfl, Nat.le_of_ble_eq_true rfl⟩ rfl rfl (Nat.le_of_ble_eq_true rfl) rfl ?_
  show C _ w _ 4 385 [(0, .ref b), (1, .ref t), (2, .ref u), (3, .int (Int32.ofNat i))] [.int v] M1 (some ())
  refine r_aload_n (pc' := 386) hx (hd 179) rfl 2 rfl rfl ?_
  refine z_callK (pc' := 389) (As := []) (rest := [.int v]) hx (hd 180) md_X12_row mi_X12_row ms_X12_row mlL_40 (cX12_row l _ hLy u hu  M1) h2 hu rfl (by decide) ⟨Nat.le_of_ble_eq_true rfl, Nat.le_of_ble_eq_true rfl⟩ rfl rfl (Nat.le_of_ble_eq_true rfl) rfl ?_
  show C _ w _ 4 389 [(0, .ref b), (1, .ref t), (2, .ref u), (3, .int (Int32.ofNat i))] [.int v, .int v] M2 (some ())
  refine z_iceq (tgt := 1089) hx (hd 181) (by decide) rfl ?_
  refine z_iinc (pc' := 1092) (v := Int32.ofNat (i + 6)) (L' := [(3, .int (Int32.ofNat (i + 6))), (0, .ref b), (1, .ref t), (2, .ref u)]) (j := 3) hx (hd 693) rfl (l6 (by omega)) (by decide) rfl rfl ?_
  refine r_goto (tgt := 18) hx (hd 694) (by decide) ?_
  refine r_sub [1, 2, 3, 0] rfl ?_
  exact nx.le (by omega) (by omega) w M2 T hx hwz hLy ht hu hT hI2
set_option maxRecDepth 20000 in
theorem lp_jokers {p : Program} {l : Launch} {e : Env} {s : State} {m : MethodId} {below : List Frame} {meth : Method} {c : Code} {b L : Nat} {xs : Nat → Int32} {Inv : Nat → Nat → Nat → Mem → Prop} (hL3 : L ≤ 3072) (C0 : lw_At p s m meth c b L xs) (hSt : St_jokers Inv) (t u i K N : Nat) (hi : i + 6 ≤ L) (nx : LpN p l e s m below meth c b L Inv t u (i + 6) (K + 3) (N + 877)) : LpB p l e s m below meth c b L Inv t u i K N 394 := by
  intro w M T hx hwz hLy ht hu hT hI
  have hd : ∀ i, DAt (xc (lx p l e s m below meth c b)).code (tbL[i]?) := fun i => by show DAt c.code _; rw [C0.2.1]; exact dat_of dL i
  obtain ⟨v, M2, h1, h2, hI2⟩ := hSt t u T M  hI
  refine r_aload_n (pc' := 395) hx (hd 184) rfl 1 rfl rfl ?_
  refine z_callK (pc' := 398) (As := []) (rest := []) hx (hd 185) md_X11_jokers mi_X11_jokers ms_X11_jokers mlL_41 (cX11_jokers l _ hLy t ht  M) h1 ht rfl (by decide) ⟨Nat.le_of_ble_eq_true rfl, Nat.le_of_ble_eq_true rfl⟩ rfl rfl (Nat.le_of_ble_eq_true rfl) rfl ?_
  show C _ w _ 4 398 [(0, .ref b), (1, .ref t), (2, .ref u), (3, .int (Int32.ofNat i))] [.int v] M (some ())
  refine r_aload_n (pc' := 399) hx (hd 186) rfl 2 rfl rfl ?_
  refine z_callK (pc' := 402) (As := []) (rest := [.int v]) hx (hd 187) md_X12_jokers mi_X12_jokers ms_X12_jokers mlL_44 (cX12_jokers l _ hLy u hu  M) h2 hu rfl (by decide) ⟨Nat.le_of_ble_eq_true rfl, Nat.le_of_ble_eq_true rfl⟩ rfl rfl (Nat.le_of_ble_eq_true rfl) rfl ?_
  show C _ w _ 4 402 [(0, .ref b), (1, .ref t), (2, .ref u), (3, .int (Int32.ofNat i))] [.int v, .int v] M2 (some ())
  refine z_iceq (tgt := 1089) hx (hd 188) (by decide) rfl ?_
  refine z_iinc (pc' := 1092) (v := Int32.ofNat (i + 6)) (L' := [(3, .int (Int32.ofNat (i + 6))), (0, .ref b), (1, .ref t), (2, .ref u)]) (j := 3) hx (hd 693) rfl (l6 (by omega)) (by decide) rfl rfl ?_
  refine r_goto (tgt := 18) hx (hd 694) (by decide) ?_
  refine r_sub [1, 2, 3, 0] rfl ?_
  exact nx.le (by omega) (by omega) w M2 T hx hwz hLy ht hu hT hI2
set_option maxRecDepth 20000 in
theorem lp_law {p : Program} {l : Launch} {e : Env} {s : State} {m : MethodId} {below : List Frame} {meth : Method} {c : Code} {b L : Nat} {xs : Nat → Int32} {Inv : Nat → Nat → Nat → Mem → Prop} (hL3 : L ≤ 3072) (C0 : lw_At p s m meth c b L xs) (hSt : St_law Inv) (t u i K N : Nat) (hi : i + 6 ≤ L) (nx : LpN p l e s m below meth c b L Inv t u (i + 6) (K + 3) (N + 877)) : LpB p l e s m below meth c b L Inv t u i K N 407 := by
  intro w M T hx hwz hLy ht hu hT hI
  have hd : ∀ i, DAt (xc (lx p l e s m below meth c b)).code (tbL[i]?) := fun i => by show DAt c.code _; rw [C0.2.1]; exact dat_of dL i
  refine r_aload_n (pc' := 408) hx (hd 191) rfl 1 rfl rfl ?_
  refine z_callG (pc' := 411) (g := fun a => FX11_law t  a M) (As := []) (rest := []) hx (hd 192) md_X11_law mi_X11_law ms_X11_law mlL_45 (fun a hb hz => cX11_law l _ a hb hz hLy t ht  M) ht rfl (by decide) ⟨Nat.le_of_ble_eq_true rfl, Nat.le_of_ble_eq_true rfl⟩ rfl rfl (Nat.le_of_ble_eq_true rfl) ⟨by have := nx.1; show K + _ ≤ 600000; omega, by have := nx.2.1; show N + _ ≤ 7302250; omega⟩ rfl (fun a hb hz => ?_) (fun a r hb hz hr => ?_)
  · obtain ⟨v, G, M1, M2, h1, h2, hI2⟩ := hSt t u T M  a hI (hT a hb)
    exact ⟨_, h1⟩
  obtain ⟨v, G, M1, M2, h1, h2, hI2⟩ := hSt t u T M  a hI (hT a hb)
  cases hr.symm.trans h1
  have hLy2 : Lay (wg w a G) := z_layG hLy hb (law_G h1)
  have hT2 : ∀ a2, Bel (wg w a G) a2 → nT T a G ≤ a2 := z_topG hb hT
  have hx : Ok _ 4 _ _ _ (wg w a G) (xat (lx p l e s m below meth c b) (K + 3) (N + 877)) := ok_grow (x := (lx p l e s m below meth c b)) (w' := wg w a G) hx rfl rfl rfl rfl hLy2 (by have := nx.1; show K + _ ≤ 600000; omega) (by have := nx.2.1; show N + _ ≤ 7302250; omega)
  have ht : Wat (wg w a G) t 11 0 := wat_old hb ht
  have hu : Wat (wg w a G) u 12 0 := wat_old hb hu
  have hwz : wz (wg w a G) = s.heap.size := hwz
  show C _ (wg w a G) _ 4 411 [(0, .ref b), (1, .ref t), (2, .ref u), (3, .int (Int32.ofNat i))] [.int v] M1 (some ())
  refine r_aload_n (pc' := 412) hx (hd 193) rfl 2 rfl rfl ?_
  refine z_callK (pc' := 415) (As := []) (rest := [.int v]) hx (hd 194) md_X12_law mi_X12_law ms_X12_law mlL_48 (cX12_law l _ hLy2 u hu  M1) h2 hu rfl (by decide) ⟨Nat.le_of_ble_eq_true rfl, Nat.le_of_ble_eq_true rfl⟩ rfl rfl (Nat.le_of_ble_eq_true rfl) rfl ?_
  show C _ (wg w a G) _ 4 415 [(0, .ref b), (1, .ref t), (2, .ref u), (3, .int (Int32.ofNat i))] [.int v, .int v] M2 (some ())
  refine z_iceq (tgt := 1089) hx (hd 195) (by decide) rfl ?_
  refine z_iinc (pc' := 1092) (v := Int32.ofNat (i + 6)) (L' := [(3, .int (Int32.ofNat (i + 6))), (0, .ref b), (1, .ref t), (2, .ref u)]) (j := 3) hx (hd 693) rfl (l6 (by omega)) (by decide) rfl rfl ?_
  refine r_goto (tgt := 18) hx (hd 694) (by decide) ?_
  refine r_sub [1, 2, 3, 0] rfl ?_
  exact nx.le (by omega) (by omega) (wg w a G) M2 (nT T a G) hx hwz hLy2 ht hu hT2 hI2
set_option maxRecDepth 20000 in
theorem lp_orders {p : Program} {l : Launch} {e : Env} {s : State} {m : MethodId} {below : List Frame} {meth : Method} {c : Code} {b L : Nat} {xs : Nat → Int32} {Inv : Nat → Nat → Nat → Mem → Prop} (hL3 : L ≤ 3072) (C0 : lw_At p s m meth c b L xs) (hSt : St_orders Inv) (t u i K N : Nat) (hi : i + 6 ≤ L) (nx : LpN p l e s m below meth c b L Inv t u (i + 6) (K + 3) (N + 877)) : LpB p l e s m below meth c b L Inv t u i K N 420 := by
  intro w M T hx hwz hLy ht hu hT hI
  have hd : ∀ i, DAt (xc (lx p l e s m below meth c b)).code (tbL[i]?) := fun i => by show DAt c.code _; rw [C0.2.1]; exact dat_of dL i
  obtain ⟨v, M1, M2, h1, h2, hI2⟩ := hSt t u T M  hI
  refine r_aload_n (pc' := 421) hx (hd 198) rfl 1 rfl rfl ?_
  refine z_callK (pc' := 424) (As := []) (rest := []) hx (hd 199) md_X11_orders mi_X11_orders ms_X11_orders mlL_49 (cX11_orders l _ hLy t ht  M) h1 ht rfl (by decide) ⟨Nat.le_of_ble_eq_true rfl, Nat.le_of_ble_eq_true rfl⟩ rfl rfl (Nat.le_of_ble_eq_true rfl) rfl ?_
  show C _ w _ 4 424 [(0, .ref b), (1, .ref t), (2, .ref u), (3, .int (Int32.ofNat i))] [.int v] M1 (some ())
  refine r_aload_n (pc' := 425) hx (hd 200) rfl 2 rfl rfl ?_
  refine z_callK (pc' := 428) (As := []) (rest := [.int v]) hx (hd 201) md_X12_orders mi_X12_orders ms_X12_orders mlL_52 (cX12_orders l _ hLy u hu  M1) h2 hu rfl (by decide) ⟨Nat.le_of_ble_eq_true rfl, Nat.le_of_ble_eq_true rfl⟩ rfl rfl (Nat.le_of_ble_eq_true rfl) rfl ?_
  show C _ w _ 4 428 [(0, .ref b), (1, .ref t), (2, .ref u), (3, .int (Int32.ofNat i))] [.int v, .int v] M2 (some ())
  refine z_iceq (tgt := 1089) hx (hd 202) (by decide) rfl ?_
  refine z_iinc (pc' := 1092) (v := Int32.ofNat (i + 6)) (L' := [(3, .int (Int32.ofNat (i + 6))), (0, .ref b), (1, .ref t), (2, .ref u)]) (j := 3) hx (hd 693) rfl (l6 (by omega)) (by decide) rfl rfl ?_
  refine r_goto (tgt := 18) hx (hd 694) (by decide) ?_
  refine r_sub [1, 2, 3, 0] rfl ?_
  exact nx.le (by omega) (by omega) w M2 T hx hwz hLy ht hu hT hI2
set_option maxRecDepth 20000 in
theorem lp_fault {p : Program} {l : Launch} {e : Env} {s : State} {m : MethodId} {below : List Frame} {meth : Method} {c : Code} {b L : Nat} {xs : Nat → Int32} {Inv : Nat → Nat → Nat → Mem → Prop} (hL3 : L ≤ 3072) (C0 : lw_At p s m meth c b L xs) (hSt : St_fault Inv) (t u i K N : Nat) (hi : i + 6 ≤ L) (nx : LpN p l e s m below meth c b L Inv t u (i + 6) (K + 3) (N + 877)) : LpB p l e s m below meth c b L Inv t u i K N 433 := by
  intro w M T hx hwz hLy ht hu hT hI
  have hd : ∀ i, DAt (xc (lx p l e s m below meth c b)).code (tbL[i]?) := fun i => by show DAt c.code _; rw [C0.2.1]; exact dat_of dL i
  obtain ⟨v, M2, h1, h2, hI2⟩ := hSt t u T M  hI
  refine r_aload_n (pc' := 434) hx (hd 205) rfl 1 rfl rfl ?_
  refine z_callK (pc' := 437) (As := []) (rest := []) hx (hd 206) md_X11_fault mi_X11_fault ms_X11_fault mlL_53 (cX11_fault l _ hLy t ht  M) h1 ht rfl (by decide) ⟨Nat.le_of_ble_eq_true rfl, Nat.le_of_ble_eq_true rfl⟩ rfl rfl (Nat.le_of_ble_eq_true rfl) rfl ?_
  show C _ w _ 4 437 [(0, .ref b), (1, .ref t), (2, .ref u), (3, .int (Int32.ofNat i))] [.int v] M (some ())
  refine r_aload_n (pc' := 438) hx (hd 207) rfl 2 rfl rfl ?_
  refine z_callK (pc' := 441) (As := []) (rest := [.int v]) hx (hd 208) md_X12_fault mi_X12_fault ms_X12_fault mlL_56 (cX12_fault l _ hLy u hu  M) h2 hu rfl (by decide) ⟨Nat.le_of_ble_eq_true rfl, Nat.le_of_ble_eq_true rfl⟩ rfl rfl (Nat.le_of_ble_eq_true rfl) rfl ?_
  show C _ w _ 4 441 [(0, .ref b), (1, .ref t), (2, .ref u), (3, .int (Int32.ofNat i))] [.int v, .int v] M2 (some ())
  refine z_iceq (tgt := 1089) hx (hd 209) (by decide) rfl ?_
  refine z_iinc (pc' := 1092) (v := Int32.ofNat (i + 6)) (L' := [(3, .int (Int32.ofNat (i + 6))), (0, .ref b), (1, .ref t), (2, .ref u)]) (j := 3) hx (hd 693) rfl (l6 (by omega)) (by decide) rfl rfl ?_
  refine r_goto (tgt := 18) hx (hd 694) (by decide) ?_
  refine r_sub [1, 2, 3, 0] rfl ?_
  exact nx.le (by omega) (by omega) w M2 T hx hwz hLy ht hu hT hI2
set_option maxRecDepth 20000 in
theorem lp_stopped {p : Program} {l : Launch} {e : Env} {s : State} {m : MethodId} {below : List Frame} {meth : Method} {c : Code} {b L : Nat} {xs : Nat → Int32} {Inv : Nat → Nat → Nat → Mem → Prop} (hL3 : L ≤ 3072) (C0 : lw_At p s m meth c b L xs) (hSt : St_stopped Inv) (t u i K N : Nat) (hi : i + 6 ≤ L) (nx : LpN p l e s m below meth c b L Inv t u (i + 6) (K + 3) (N + 877)) : LpB p l e s m below meth c b L Inv t u i K N 446 := by
  intro w M T hx hwz hLy ht hu hT hI
  have hd : ∀ i, DAt (xc (lx p l e s m below meth c b)).code (tbL[i]?) := fun i => by show DAt c.code _; rw [C0.2.1]; exact dat_of dL i
  obtain ⟨v, M2, h1, h2, hI2⟩ := hSt t u T M  hI
  refine r_aload_n (pc' := 447) hx (hd 212) rfl 1 rfl rfl ?_
  refine z_callK (pc' := 450) (As := []) (rest := []) hx (hd 213) md_X11_stopped mi_X11_stopped ms_X11_stopped mlL_57 (cX11_stopped l _ hLy t ht  M) h1 ht rfl (by decide) ⟨Nat.le_of_ble_eq_true rfl, Nat.le_of_ble_eq_true rfl⟩ rfl rfl (Nat.le_of_ble_eq_true rfl) rfl ?_
  show C _ w _ 4 450 [(0, .ref b), (1, .ref t), (2, .ref u), (3, .int (Int32.ofNat i))] [.int v] M (some ())
  refine r_aload_n (pc' := 451) hx (hd 214) rfl 2 rfl rfl ?_
  refine z_callK (pc' := 454) (As := []) (rest := [.int v]) hx (hd 215) md_X12_stopped mi_X12_stopped ms_X12_stopped mlL_60 (cX12_stopped l _ hLy u hu  M) h2 hu rfl (by decide) ⟨Nat.le_of_ble_eq_true rfl, Nat.le_of_ble_eq_true rfl⟩ rfl rfl (Nat.le_of_ble_eq_true rfl) rfl ?_
  show C _ w _ 4 454 [(0, .ref b), (1, .ref t), (2, .ref u), (3, .int (Int32.ofNat i))] [.int v, .int v] M2 (some ())
  refine z_iceq (tgt := 1089) hx (hd 216) (by decide) rfl ?_
  refine z_iinc (pc' := 1092) (v := Int32.ofNat (i + 6)) (L' := [(3, .int (Int32.ofNat (i + 6))), (0, .ref b), (1, .ref t), (2, .ref u)]) (j := 3) hx (hd 693) rfl (l6 (by omega)) (by decide) rfl rfl ?_
  refine r_goto (tgt := 18) hx (hd 694) (by decide) ?_
  refine r_sub [1, 2, 3, 0] rfl ?_
  exact nx.le (by omega) (by omega) w M2 T hx hwz hLy ht hu hT hI2
set_option maxRecDepth 20000 in
theorem lp_force {p : Program} {l : Launch} {e : Env} {s : State} {m : MethodId} {below : List Frame} {meth : Method} {c : Code} {b L : Nat} {xs : Nat → Int32} {Inv : Nat → Nat → Nat → Mem → Prop} (hL3 : L ≤ 3072) (C0 : lw_At p s m meth c b L xs) (hSt : St_force Inv) (t u i K N : Nat) (hi : i + 6 ≤ L) (nx : LpN p l e s m below meth c b L Inv t u (i + 6) (K + 3) (N + 877)) : LpB p l e s m below meth c b L Inv t u i K N 459 := by
  intro w M T hx hwz hLy ht hu hT hI
  have hd : ∀ i, DAt (xc (lx p l e s m below meth c b)).code (tbL[i]?) := fun i => by show DAt c.code _; rw [C0.2.1]; exact dat_of dL i
  obtain ⟨v, M1, M2, h1, h2, hI2⟩ := hSt t u T M (xs (i + 1)) hI
  refine r_aload_n (pc' := 460) hx (hd 219) rfl 1 rfl rfl ?_
  refine r_aload_n (pc' := 461) hx (hd 220) rfl 0 rfl rfl ?_
  refine r_iload_n (pc' := 462) hx (hd 221) rfl 3 rfl rfl ?_
  refine r_iconst (pc' := 463) (v := 1) hx (hd 222) (by decide) rfl ?_
  refine r_iadd (pc' := 464) hx (hd 223) rfl ?_
  refine z_sld (pc' := 465) (k := i + 1) C0 hwz hx (hd 224) (lj hL3 (v := 1) (j := 1) (by decide) (by omega)).1 (lj hL3 (v := 1) (j := 1) (by decide) (by omega)).2 rfl ?_
  refine z_callK (pc' := 468) (As := [.int (xs (i + 1))]) (rest := []) hx (hd 225) md_X11_force mi_X11_force ms_X11_force mlL_61 (cX11_force l _ hLy t ht (xs (i + 1)) M) h1 ht rfl (by decide) ⟨Nat.le_of_ble_eq_true rfl, Nat.le_of_ble_eq_true rfl⟩ rfl rfl (Nat.le_of_ble_eq_true rfl) rfl ?_
  show C _ w _ 4 468 [(0, .ref b), (1, .ref t), (2, .ref u), (3, .int (Int32.ofNat i))] [.int v] M1 (some ())
  refine r_aload_n (pc' := 469) hx (hd 226) rfl 2 rfl rfl ?_
  refine r_aload_n (pc' := 470) hx (hd 227) rfl 0 rfl rfl ?_
  refine r_iload_n (pc' := 471) hx (hd 228) rfl 3 rfl rfl ?_
  refine r_iconst (pc' := 472) (v := 1) hx (hd 229) (by decide) rfl ?_
  refine r_iadd (pc' := 473) hx (hd 230) rfl ?_
  refine z_sld (pc' := 474) (k := i + 1) C0 hwz hx (hd 231) (lj hL3 (v := 1) (j := 1) (by decide) (by omega)).1 (lj hL3 (v := 1) (j := 1) (by decide) (by omega)).2 rfl ?_
  refine z_callK (pc' := 477) (As := [.int (xs (i + 1))]) (rest := [.int v]) hx (hd 232) md_X12_force mi_X12_force ms_X12_force mlL_64 (cX12_force l _ hLy u hu (xs (i + 1)) M1) h2 hu rfl (by decide) ⟨Nat.le_of_ble_eq_true rfl, Nat.le_of_ble_eq_true rfl⟩ rfl rfl (Nat.le_of_ble_eq_true rfl) rfl ?_
  show C _ w _ 4 477 [(0, .ref b), (1, .ref t), (2, .ref u), (3, .int (Int32.ofNat i))] [.int v, .int v] M2 (some ())
  refine z_iceq (tgt := 1089) hx (hd 233) (by decide) rfl ?_
  refine z_iinc (pc' := 1092) (v := Int32.ofNat (i + 6)) (L' := [(3, .int (Int32.ofNat (i + 6))), (0, .ref b), (1, .ref t), (2, .ref u)]) (j := 3) hx (hd 693) rfl (l6 (by omega)) (by decide) rfl rfl ?_
  refine r_goto (tgt := 18) hx (hd 694) (by decide) ?_
  refine r_sub [1, 2, 3, 0] rfl ?_
  exact nx.le (by omega) (by omega) w M2 T hx hwz hLy ht hu hT hI2
set_option maxRecDepth 20000 in
theorem lp_deal {p : Program} {l : Launch} {e : Env} {s : State} {m : MethodId} {below : List Frame} {meth : Method} {c : Code} {b L : Nat} {xs : Nat → Int32} {Inv : Nat → Nat → Nat → Mem → Prop} (hL3 : L ≤ 3072) (C0 : lw_At p s m meth c b L xs) (hSt : St_deal Inv) (t u i K N : Nat) (hi : i + 6 ≤ L) (nx : LpN p l e s m below meth c b L Inv t u (i + 6) (K + 3) (N + 877)) : LpB p l e s m below meth c b L Inv t u i K N 482 := by
  intro w M T hx hwz hLy ht hu hT hI
  have hd : ∀ i, DAt (xc (lx p l e s m below meth c b)).code (tbL[i]?) := fun i => by show DAt c.code _; rw [C0.2.1]; exact dat_of dL i
  obtain ⟨v, M1, M2, h1, h2, hI2⟩ := hSt t u T M (xs (i + 1)) hI
  refine r_aload_n (pc' := 483) hx (hd 236) rfl 1 rfl rfl ?_
  refine r_aload_n (pc' := 484) hx (hd 237) rfl 0 rfl rfl ?_
  refine r_iload_n (pc' := 485) hx (hd 238) rfl 3 rfl rfl ?_
  refine r_iconst (pc' := 486) (v := 1) hx (hd 239) (by decide) rfl ?_
  refine r_iadd (pc' := 487) hx (hd 240) rfl ?_
  refine z_sld (pc' := 488) (k := i + 1) C0 hwz hx (hd 241) (lj hL3 (v := 1) (j := 1) (by decide) (by omega)).1 (lj hL3 (v := 1) (j := 1) (by decide) (by omega)).2 rfl ?_
  refine z_callK (pc' := 491) (As := [.int (xs (i + 1))]) (rest := []) hx (hd 242) md_X11_deal mi_X11_deal ms_X11_deal mlL_65 (cX11_deal l _ hLy t ht (xs (i + 1)) M) h1 ht rfl (by decide) ⟨Nat.le_of_ble_eq_true rfl, Nat.le_of_ble_eq_true rfl⟩ rfl rfl (Nat.le_of_ble_eq_true rfl) rfl ?_
  show C _ w _ 4 491 [(0, .ref b), (1, .ref t), (2, .ref u), (3, .int (Int32.ofNat i))] [.int v] M1 (some ())
  refine r_aload_n (pc' := 492) hx (hd 243) rfl 2 rfl rfl ?_
  refine r_aload_n (pc' := 493) hx (hd 244) rfl 0 rfl rfl ?_
  refine r_iload_n (pc' := 494) hx (hd 245) rfl 3 rfl rfl ?_
  refine r_iconst (pc' := 495) (v := 1) hx (hd 246) (by decide) rfl ?_
  refine r_iadd (pc' := 496) hx (hd 247) rfl ?_
  refine z_sld (pc' := 497) (k := i + 1) C0 hwz hx (hd 248) (lj hL3 (v := 1) (j := 1) (by decide) (by omega)).1 (lj hL3 (v := 1) (j := 1) (by decide) (by omega)).2 rfl ?_
  refine z_callK (pc' := 500) (As := [.int (xs (i + 1))]) (rest := [.int v]) hx (hd 249) md_X12_deal mi_X12_deal ms_X12_deal mlL_68 (cX12_deal l _ hLy u hu (xs (i + 1)) M1) h2 hu rfl (by decide) ⟨Nat.le_of_ble_eq_true rfl, Nat.le_of_ble_eq_true rfl⟩ rfl rfl (Nat.le_of_ble_eq_true rfl) rfl ?_
  show C _ w _ 4 500 [(0, .ref b), (1, .ref t), (2, .ref u), (3, .int (Int32.ofNat i))] [.int v, .int v] M2 (some ())
  refine z_iceq (tgt := 1089) hx (hd 250) (by decide) rfl ?_
  refine z_iinc (pc' := 1092) (v := Int32.ofNat (i + 6)) (L' := [(3, .int (Int32.ofNat (i + 6))), (0, .ref b), (1, .ref t), (2, .ref u)]) (j := 3) hx (hd 693) rfl (l6 (by omega)) (by decide) rfl rfl ?_
  refine r_goto (tgt := 18) hx (hd 694) (by decide) ?_
  refine r_sub [1, 2, 3, 0] rfl ?_
  exact nx.le (by omega) (by omega) w M2 T hx hwz hLy ht hu hT hI2
set_option maxRecDepth 20000 in
theorem lp_lay {p : Program} {l : Launch} {e : Env} {s : State} {m : MethodId} {below : List Frame} {meth : Method} {c : Code} {b L : Nat} {xs : Nat → Int32} {Inv : Nat → Nat → Nat → Mem → Prop} (hL3 : L ≤ 3072) (C0 : lw_At p s m meth c b L xs) (hSt : St_lay Inv) (t u i K N : Nat) (hi : i + 6 ≤ L) (nx : LpN p l e s m below meth c b L Inv t u (i + 6) (K + 3) (N + 877)) : LpB p l e s m below meth c b L Inv t u i K N 505 := by
  intro w M T hx hwz hLy ht hu hT hI
  have hd : ∀ i, DAt (xc (lx p l e s m below meth c b)).code (tbL[i]?) := fun i => by show DAt c.code _; rw [C0.2.1]; exact dat_of dL i
  obtain ⟨v, M1, M2, h1, h2, hI2⟩ := hSt t u T M (xs (i + 1)) (xs (i + 2)) hI
  refine r_aload_n (pc' := 506) hx (hd 253) rfl 1 rfl rfl ?_
  refine r_aload_n (pc' := 507) hx (hd 254) rfl 0 rfl rfl ?_
  refine r_iload_n (pc' := 508) hx (hd 255) rfl 3 rfl rfl ?_
  refine r_iconst (pc' := 509) (v := 1) hx (hd 256) (by decide) rfl ?_
  refine r_iadd (pc' := 510) hx (hd 257) rfl ?_
  refine z_sld (pc' := 511) (k := i + 1) C0 hwz hx (hd 258) (lj hL3 (v := 1) (j := 1) (by decide) (by omega)).1 (lj hL3 (v := 1) (j := 1) (by decide) (by omega)).2 rfl ?_
  refine r_aload_n (pc' := 512) hx (hd 259) rfl 0 rfl rfl ?_
  refine r_iload_n (pc' := 513) hx (hd 260) rfl 3 rfl rfl ?_
  refine r_iconst (pc' := 514) (v := 2) hx (hd 261) (by decide) rfl ?_
  refine r_iadd (pc' := 515) hx (hd 262) rfl ?_
  refine z_sld (pc' := 516) (k := i + 2) C0 hwz hx (hd 263) (lj hL3 (v := 2) (j := 2) (by decide) (by omega)).1 (lj hL3 (v := 2) (j := 2) (by decide) (by omega)).2 rfl ?_
  refine z_callK (pc' := 519) (As := [.int (xs (i + 1)), .int (xs (i + 2))]) (rest := []) hx (hd 264) md_X11_lay mi_X11_lay ms_X11_lay mlL_69 (cX11_lay l _ hLy t ht (xs (i + 1)) (xs (i + 2)) M) h1 ht rfl (by decide) ⟨Nat.le_of_ble_eq_true rfl, Nat.le_of_ble_eq_true rfl⟩ rfl rfl (Nat.le_of_ble_eq_true rfl) rfl ?_
  show C _ w _ 4 519 [(0, .ref b), (1, .ref t), (2, .ref u), (3, .int (Int32.ofNat i))] [.int v] M1 (some ())
  refine r_aload_n (pc' := 520) hx (hd 265) rfl 2 rfl rfl ?_
  refine r_aload_n (pc' := 521) hx (hd 266) rfl 0 rfl rfl ?_
  refine r_iload_n (pc' := 522) hx (hd 267) rfl 3 rfl rfl ?_
  refine r_iconst (pc' := 523) (v := 1) hx (hd 268) (by decide) rfl ?_
  refine r_iadd (pc' := 524) hx (hd 269) rfl ?_
  refine z_sld (pc' := 525) (k := i + 1) C0 hwz hx (hd 270) (lj hL3 (v := 1) (j := 1) (by decide) (by omega)).1 (lj hL3 (v := 1) (j := 1) (by decide) (by omega)).2 rfl ?_
  refine r_aload_n (pc' := 526) hx (hd 271) rfl 0 rfl rfl ?_
  refine r_iload_n (pc' := 527) hx (hd 272) rfl 3 rfl rfl ?_
  refine r_iconst (pc' := 528) (v := 2) hx (hd 273) (by decide) rfl ?_
  refine r_iadd (pc' := 529) hx (hd 274) rfl ?_
  refine z_sld (pc' := 530) (k := i + 2) C0 hwz hx (hd 275) (lj hL3 (v := 2) (j := 2) (by decide) (by omega)).1 (lj hL3 (v := 2) (j := 2) (by decide) (by omega)).2 rfl ?_
  refine z_callK (pc' := 533) (As := [.int (xs (i + 1)), .int (xs (i + 2))]) (rest := [.int v]) hx (hd 276) md_X12_lay mi_X12_lay ms_X12_lay mlL_72 (cX12_lay l _ hLy u hu (xs (i + 1)) (xs (i + 2)) M1) h2 hu rfl (by decide) ⟨Nat.le_of_ble_eq_true rfl, Nat.le_of_ble_eq_true rfl⟩ rfl rfl (Nat.le_of_ble_eq_true rfl) rfl ?_
  show C _ w _ 4 533 [(0, .ref b), (1, .ref t), (2, .ref u), (3, .int (Int32.ofNat i))] [.int v, .int v] M2 (some ())
  refine z_iceq (tgt := 1089) hx (hd 277) (by decide) rfl ?_
  refine z_iinc (pc' := 1092) (v := Int32.ofNat (i + 6)) (L' := [(3, .int (Int32.ofNat (i + 6))), (0, .ref b), (1, .ref t), (2, .ref u)]) (j := 3) hx (hd 693) rfl (l6 (by omega)) (by decide) rfl rfl ?_
  refine r_goto (tgt := 18) hx (hd 694) (by decide) ?_
  refine r_sub [1, 2, 3, 0] rfl ?_
  exact nx.le (by omega) (by omega) w M2 T hx hwz hLy ht hu hT hI2
set_option maxRecDepth 20000 in
theorem lp_play {p : Program} {l : Launch} {e : Env} {s : State} {m : MethodId} {below : List Frame} {meth : Method} {c : Code} {b L : Nat} {xs : Nat → Int32} {Inv : Nat → Nat → Nat → Mem → Prop} (hL3 : L ≤ 3072) (C0 : lw_At p s m meth c b L xs) (hSt : St_play Inv) (t u i K N : Nat) (hi : i + 6 ≤ L) (nx : LpN p l e s m below meth c b L Inv t u (i + 6) (K + 3) (N + 877)) : LpB p l e s m below meth c b L Inv t u i K N 538 := by
  intro w M T hx hwz hLy ht hu hT hI
  have hd : ∀ i, DAt (xc (lx p l e s m below meth c b)).code (tbL[i]?) := fun i => by show DAt c.code _; rw [C0.2.1]; exact dat_of dL i
  obtain ⟨v, M1, M2, h1, h2, hI2⟩ := hSt t u T M (xs (i + 1)) (xs (i + 2)) hI
  refine r_aload_n (pc' := 539) hx (hd 280) rfl 1 rfl rfl ?_
  refine r_aload_n (pc' := 540) hx (hd 281) rfl 0 rfl rfl ?_
  refine r_iload_n (pc' := 541) hx (hd 282) rfl 3 rfl rfl ?_
  refine r_iconst (pc' := 542) (v := 1) hx (hd 283) (by decide) rfl ?_
  refine r_iadd (pc' := 543) hx (hd 284) rfl ?_
  refine z_sld (pc' := 544) (k := i + 1) C0 hwz hx (hd 285) (lj hL3 (v := 1) (j := 1) (by decide) (by omega)).1 (lj hL3 (v := 1) (j := 1) (by decide) (by omega)).2 rfl ?_
  refine r_aload_n (pc' := 545) hx (hd 286) rfl 0 rfl rfl ?_
  refine r_iload_n (pc' := 546) hx (hd 287) rfl 3 rfl rfl ?_
  refine r_iconst (pc' := 547) (v := 2) hx (hd 288) (by decide) rfl ?_
  refine r_iadd (pc' := 548) hx (hd 289) rfl ?_
  refine z_sld (pc' := 549) (k := i + 2) C0 hwz hx (hd 290) (lj hL3 (v := 2) (j := 2) (by decide) (by omega)).1 (lj hL3 (v := 2) (j := 2) (by decide) (by omega)).2 rfl ?_
  refine z_callK (pc' := 552) (As := [.int (xs (i + 1)), .int (xs (i + 2))]) (rest := []) hx (hd 291) md_X11_play mi_X11_play ms_X11_play mlL_73 (cX11_play l _ hLy t ht (xs (i + 1)) (xs (i + 2)) M) h1 ht rfl (by decide) ⟨Nat.le_of_ble_eq_true rfl, Nat.le_of_ble_eq_true rfl⟩ rfl rfl (Nat.le_of_ble_eq_true rfl) rfl ?_
  show C _ w _ 4 552 [(0, .ref b), (1, .ref t), (2, .ref u), (3, .int (Int32.ofNat i))] [.int v] M1 (some ())
  refine r_aload_n (pc' := 553) hx (hd 292) rfl 2 rfl rfl ?_
  refine r_aload_n (pc' := 554) hx (hd 293) rfl 0 rfl rfl ?_
  refine r_iload_n (pc' := 555) hx (hd 294) rfl 3 rfl rfl ?_
  refine r_iconst (pc' := 556) (v := 1) hx (hd 295) (by decide) rfl ?_
  refine r_iadd (pc' := 557) hx (hd 296) rfl ?_
  refine z_sld (pc' := 558) (k := i + 1) C0 hwz hx (hd 297) (lj hL3 (v := 1) (j := 1) (by decide) (by omega)).1 (lj hL3 (v := 1) (j := 1) (by decide) (by omega)).2 rfl ?_
  refine r_aload_n (pc' := 559) hx (hd 298) rfl 0 rfl rfl ?_
  refine r_iload_n (pc' := 560) hx (hd 299) rfl 3 rfl rfl ?_
  refine r_iconst (pc' := 561) (v := 2) hx (hd 300) (by decide) rfl ?_
  refine r_iadd (pc' := 562) hx (hd 301) rfl ?_
  refine z_sld (pc' := 563) (k := i + 2) C0 hwz hx (hd 302) (lj hL3 (v := 2) (j := 2) (by decide) (by omega)).1 (lj hL3 (v := 2) (j := 2) (by decide) (by omega)).2 rfl ?_
  refine z_callK (pc' := 566) (As := [.int (xs (i + 1)), .int (xs (i + 2))]) (rest := [.int v]) hx (hd 303) md_X12_play mi_X12_play ms_X12_play mlL_76 (cX12_play l _ hLy u hu (xs (i + 1)) (xs (i + 2)) M1) h2 hu rfl (by decide) ⟨Nat.le_of_ble_eq_true rfl, Nat.le_of_ble_eq_true rfl⟩ rfl rfl (Nat.le_of_ble_eq_true rfl) rfl ?_
  show C _ w _ 4 566 [(0, .ref b), (1, .ref t), (2, .ref u), (3, .int (Int32.ofNat i))] [.int v, .int v] M2 (some ())
  refine z_iceq (tgt := 1089) hx (hd 304) (by decide) rfl ?_
  refine z_iinc (pc' := 1092) (v := Int32.ofNat (i + 6)) (L' := [(3, .int (Int32.ofNat (i + 6))), (0, .ref b), (1, .ref t), (2, .ref u)]) (j := 3) hx (hd 693) rfl (l6 (by omega)) (by decide) rfl rfl ?_
  refine r_goto (tgt := 18) hx (hd 694) (by decide) ?_
  refine r_sub [1, 2, 3, 0] rfl ?_
  exact nx.le (by omega) (by omega) w M2 T hx hwz hLy ht hu hT hI2
set_option maxRecDepth 20000 in
theorem lp_show {p : Program} {l : Launch} {e : Env} {s : State} {m : MethodId} {below : List Frame} {meth : Method} {c : Code} {b L : Nat} {xs : Nat → Int32} {Inv : Nat → Nat → Nat → Mem → Prop} (hL3 : L ≤ 3072) (C0 : lw_At p s m meth c b L xs) (hSt : St_show Inv) (t u i K N : Nat) (hi : i + 6 ≤ L) (nx : LpN p l e s m below meth c b L Inv t u (i + 6) (K + 3) (N + 877)) : LpB p l e s m below meth c b L Inv t u i K N 571 := by
  intro w M T hx hwz hLy ht hu hT hI
  have hd : ∀ i, DAt (xc (lx p l e s m below meth c b)).code (tbL[i]?) := fun i => by show DAt c.code _; rw [C0.2.1]; exact dat_of dL i
  obtain ⟨v, M1, M2, h1, h2, hI2⟩ := hSt t u T M  hI
  refine r_aload_n (pc' := 572) hx (hd 307) rfl 1 rfl rfl ?_
  refine z_callK (pc' := 575) (As := []) (rest := []) hx (hd 308) md_X11_show mi_X11_show ms_X11_show mlL_77 (cX11_show l _ hLy t ht  M) h1 ht rfl (by decide) ⟨Nat.le_of_ble_eq_true rfl, Nat.le_of_ble_eq_true rfl⟩ rfl rfl (Nat.le_of_ble_eq_true rfl) rfl ?_
  show C _ w _ 4 575 [(0, .ref b), (1, .ref t), (2, .ref u), (3, .int (Int32.ofNat i))] [.int v] M1 (some ())
  refine r_aload_n (pc' := 576) hx (hd 309) rfl 2 rfl rfl ?_
  refine z_callK (pc' := 579) (As := []) (rest := [.int v]) hx (hd 310) md_X12_show mi_X12_show ms_X12_show mlL_80 (cX12_show l _ hLy u hu  M1) h2 hu rfl (by decide) ⟨Nat.le_of_ble_eq_true rfl, Nat.le_of_ble_eq_true rfl⟩ rfl rfl (Nat.le_of_ble_eq_true rfl) rfl ?_
  show C _ w _ 4 579 [(0, .ref b), (1, .ref t), (2, .ref u), (3, .int (Int32.ofNat i))] [.int v, .int v] M2 (some ())
  refine z_iceq (tgt := 1089) hx (hd 311) (by decide) rfl ?_
  refine z_iinc (pc' := 1092) (v := Int32.ofNat (i + 6)) (L' := [(3, .int (Int32.ofNat (i + 6))), (0, .ref b), (1, .ref t), (2, .ref u)]) (j := 3) hx (hd 693) rfl (l6 (by omega)) (by decide) rfl rfl ?_
  refine r_goto (tgt := 18) hx (hd 694) (by decide) ?_
  refine r_sub [1, 2, 3, 0] rfl ?_
  exact nx.le (by omega) (by omega) w M2 T hx hwz hLy ht hu hT hI2
set_option maxRecDepth 20000 in
theorem lp_undo {p : Program} {l : Launch} {e : Env} {s : State} {m : MethodId} {below : List Frame} {meth : Method} {c : Code} {b L : Nat} {xs : Nat → Int32} {Inv : Nat → Nat → Nat → Mem → Prop} (hL3 : L ≤ 3072) (C0 : lw_At p s m meth c b L xs) (hSt : St_undo Inv) (t u i K N : Nat) (hi : i + 6 ≤ L) (nx : LpN p l e s m below meth c b L Inv t u (i + 6) (K + 3) (N + 877)) : LpB p l e s m below meth c b L Inv t u i K N 584 := by
  intro w M T hx hwz hLy ht hu hT hI
  have hd : ∀ i, DAt (xc (lx p l e s m below meth c b)).code (tbL[i]?) := fun i => by show DAt c.code _; rw [C0.2.1]; exact dat_of dL i
  obtain ⟨v, M1, M2, h1, h2, hI2⟩ := hSt t u T M  hI
  refine r_aload_n (pc' := 585) hx (hd 314) rfl 1 rfl rfl ?_
  refine z_callK (pc' := 588) (As := []) (rest := []) hx (hd 315) md_X11_undo mi_X11_undo ms_X11_undo mlL_81 (cX11_undo l _ hLy t ht  M) h1 ht rfl (by decide) ⟨Nat.le_of_ble_eq_true rfl, Nat.le_of_ble_eq_true rfl⟩ rfl rfl (Nat.le_of_ble_eq_true rfl) rfl ?_
  show C _ w _ 4 588 [(0, .ref b), (1, .ref t), (2, .ref u), (3, .int (Int32.ofNat i))] [.int v] M1 (some ())
  refine r_aload_n (pc' := 589) hx (hd 316) rfl 2 rfl rfl ?_
  refine z_callK (pc' := 592) (As := []) (rest := [.int v]) hx (hd 317) md_X12_undo mi_X12_undo ms_X12_undo mlL_84 (cX12_undo l _ hLy u hu  M1) h2 hu rfl (by decide) ⟨Nat.le_of_ble_eq_true rfl, Nat.le_of_ble_eq_true rfl⟩ rfl rfl (Nat.le_of_ble_eq_true rfl) rfl ?_
  show C _ w _ 4 592 [(0, .ref b), (1, .ref t), (2, .ref u), (3, .int (Int32.ofNat i))] [.int v, .int v] M2 (some ())
  refine z_iceq (tgt := 1089) hx (hd 318) (by decide) rfl ?_
  refine z_iinc (pc' := 1092) (v := Int32.ofNat (i + 6)) (L' := [(3, .int (Int32.ofNat (i + 6))), (0, .ref b), (1, .ref t), (2, .ref u)]) (j := 3) hx (hd 693) rfl (l6 (by omega)) (by decide) rfl rfl ?_
  refine r_goto (tgt := 18) hx (hd 694) (by decide) ?_
  refine r_sub [1, 2, 3, 0] rfl ?_
  exact nx.le (by omega) (by omega) w M2 T hx hwz hLy ht hu hT hI2
set_option maxRecDepth 20000 in
theorem lp_hold {p : Program} {l : Launch} {e : Env} {s : State} {m : MethodId} {below : List Frame} {meth : Method} {c : Code} {b L : Nat} {xs : Nat → Int32} {Inv : Nat → Nat → Nat → Mem → Prop} (hL3 : L ≤ 3072) (C0 : lw_At p s m meth c b L xs) (hSt : St_hold Inv) (t u i K N : Nat) (hi : i + 6 ≤ L) (nx : LpN p l e s m below meth c b L Inv t u (i + 6) (K + 3) (N + 877)) : LpB p l e s m below meth c b L Inv t u i K N 597 := by
  intro w M T hx hwz hLy ht hu hT hI
  have hd : ∀ i, DAt (xc (lx p l e s m below meth c b)).code (tbL[i]?) := fun i => by show DAt c.code _; rw [C0.2.1]; exact dat_of dL i
  obtain ⟨v, M1, M2, h1, h2, hI2⟩ := hSt t u T M (xs (i + 1)) hI
  refine r_aload_n (pc' := 598) hx (hd 321) rfl 1 rfl rfl ?_
  refine r_aload_n (pc' := 599) hx (hd 322) rfl 0 rfl rfl ?_
  refine r_iload_n (pc' := 600) hx (hd 323) rfl 3 rfl rfl ?_
  refine r_iconst (pc' := 601) (v := 1) hx (hd 324) (by decide) rfl ?_
  refine r_iadd (pc' := 602) hx (hd 325) rfl ?_
  refine z_sld (pc' := 603) (k := i + 1) C0 hwz hx (hd 326) (lj hL3 (v := 1) (j := 1) (by decide) (by omega)).1 (lj hL3 (v := 1) (j := 1) (by decide) (by omega)).2 rfl ?_
  refine z_callK (pc' := 606) (As := [.int (xs (i + 1))]) (rest := []) hx (hd 327) md_X11_hold mi_X11_hold ms_X11_hold mlL_85 (cX11_hold l _ hLy t ht (xs (i + 1)) M) h1 ht rfl (by decide) ⟨Nat.le_of_ble_eq_true rfl, Nat.le_of_ble_eq_true rfl⟩ rfl rfl (Nat.le_of_ble_eq_true rfl) rfl ?_
  show C _ w _ 4 606 [(0, .ref b), (1, .ref t), (2, .ref u), (3, .int (Int32.ofNat i))] [.int v] M1 (some ())
  refine r_aload_n (pc' := 607) hx (hd 328) rfl 2 rfl rfl ?_
  refine r_aload_n (pc' := 608) hx (hd 329) rfl 0 rfl rfl ?_
  refine r_iload_n (pc' := 609) hx (hd 330) rfl 3 rfl rfl ?_
  refine r_iconst (pc' := 610) (v := 1) hx (hd 331) (by decide) rfl ?_
  refine r_iadd (pc' := 611) hx (hd 332) rfl ?_
  refine z_sld (pc' := 612) (k := i + 1) C0 hwz hx (hd 333) (lj hL3 (v := 1) (j := 1) (by decide) (by omega)).1 (lj hL3 (v := 1) (j := 1) (by decide) (by omega)).2 rfl ?_
  refine z_callK (pc' := 615) (As := [.int (xs (i + 1))]) (rest := [.int v]) hx (hd 334) md_X12_hold mi_X12_hold ms_X12_hold mlL_88 (cX12_hold l _ hLy u hu (xs (i + 1)) M1) h2 hu rfl (by decide) ⟨Nat.le_of_ble_eq_true rfl, Nat.le_of_ble_eq_true rfl⟩ rfl rfl (Nat.le_of_ble_eq_true rfl) rfl ?_
  show C _ w _ 4 615 [(0, .ref b), (1, .ref t), (2, .ref u), (3, .int (Int32.ofNat i))] [.int v, .int v] M2 (some ())
  refine z_iceq (tgt := 1089) hx (hd 335) (by decide) rfl ?_
  refine z_iinc (pc' := 1092) (v := Int32.ofNat (i + 6)) (L' := [(3, .int (Int32.ofNat (i + 6))), (0, .ref b), (1, .ref t), (2, .ref u)]) (j := 3) hx (hd 693) rfl (l6 (by omega)) (by decide) rfl rfl ?_
  refine r_goto (tgt := 18) hx (hd 694) (by decide) ?_
  refine r_sub [1, 2, 3, 0] rfl ?_
  exact nx.le (by omega) (by omega) w M2 T hx hwz hLy ht hu hT hI2
set_option maxRecDepth 20000 in
theorem lp_drop {p : Program} {l : Launch} {e : Env} {s : State} {m : MethodId} {below : List Frame} {meth : Method} {c : Code} {b L : Nat} {xs : Nat → Int32} {Inv : Nat → Nat → Nat → Mem → Prop} (hL3 : L ≤ 3072) (C0 : lw_At p s m meth c b L xs) (hSt : St_drop Inv) (t u i K N : Nat) (hi : i + 6 ≤ L) (nx : LpN p l e s m below meth c b L Inv t u (i + 6) (K + 3) (N + 877)) : LpB p l e s m below meth c b L Inv t u i K N 620 := by
  intro w M T hx hwz hLy ht hu hT hI
  have hd : ∀ i, DAt (xc (lx p l e s m below meth c b)).code (tbL[i]?) := fun i => by show DAt c.code _; rw [C0.2.1]; exact dat_of dL i
  obtain ⟨v, M1, M2, h1, h2, hI2⟩ := hSt t u T M  hI
  refine r_aload_n (pc' := 621) hx (hd 338) rfl 1 rfl rfl ?_
  refine z_callK (pc' := 624) (As := []) (rest := []) hx (hd 339) md_X11_drop mi_X11_drop ms_X11_drop mlL_89 (cX11_drop l _ hLy t ht  M) h1 ht rfl (by decide) ⟨Nat.le_of_ble_eq_true rfl, Nat.le_of_ble_eq_true rfl⟩ rfl rfl (Nat.le_of_ble_eq_true rfl) rfl ?_
  show C _ w _ 4 624 [(0, .ref b), (1, .ref t), (2, .ref u), (3, .int (Int32.ofNat i))] [.int v] M1 (some ())
  refine r_aload_n (pc' := 625) hx (hd 340) rfl 2 rfl rfl ?_
  refine z_callK (pc' := 628) (As := []) (rest := [.int v]) hx (hd 341) md_X12_drop mi_X12_drop ms_X12_drop mlL_92 (cX12_drop l _ hLy u hu  M1) h2 hu rfl (by decide) ⟨Nat.le_of_ble_eq_true rfl, Nat.le_of_ble_eq_true rfl⟩ rfl rfl (Nat.le_of_ble_eq_true rfl) rfl ?_
  show C _ w _ 4 628 [(0, .ref b), (1, .ref t), (2, .ref u), (3, .int (Int32.ofNat i))] [.int v, .int v] M2 (some ())
  refine z_iceq (tgt := 1089) hx (hd 342) (by decide) rfl ?_
  refine z_iinc (pc' := 1092) (v := Int32.ofNat (i + 6)) (L' := [(3, .int (Int32.ofNat (i + 6))), (0, .ref b), (1, .ref t), (2, .ref u)]) (j := 3) hx (hd 693) rfl (l6 (by omega)) (by decide) rfl rfl ?_
  refine r_goto (tgt := 18) hx (hd 694) (by decide) ?_
  refine r_sub [1, 2, 3, 0] rfl ?_
  exact nx.le (by omega) (by omega) w M2 T hx hwz hLy ht hu hT hI2
set_option maxRecDepth 20000 in
theorem lp_counted {p : Program} {l : Launch} {e : Env} {s : State} {m : MethodId} {below : List Frame} {meth : Method} {c : Code} {b L : Nat} {xs : Nat → Int32} {Inv : Nat → Nat → Nat → Mem → Prop} (hL3 : L ≤ 3072) (C0 : lw_At p s m meth c b L xs) (hSt : St_counted Inv) (t u i K N : Nat) (hi : i + 6 ≤ L) (nx : LpN p l e s m below meth c b L Inv t u (i + 6) (K + 3) (N + 877)) : LpB p l e s m below meth c b L Inv t u i K N 633 := by
  intro w M T hx hwz hLy ht hu hT hI
  have hd : ∀ i, DAt (xc (lx p l e s m below meth c b)).code (tbL[i]?) := fun i => by show DAt c.code _; rw [C0.2.1]; exact dat_of dL i
  obtain ⟨v, M1, M2, h1, h2, hI2⟩ := hSt t u T M (xs (i + 1)) (xs (i + 2)) (xs (i + 3)) hI
  refine r_aload_n (pc' := 634) hx (hd 345) rfl 1 rfl rfl ?_
  refine r_aload_n (pc' := 635) hx (hd 346) rfl 0 rfl rfl ?_
  refine r_iload_n (pc' := 636) hx (hd 347) rfl 3 rfl rfl ?_
  refine r_iconst (pc' := 637) (v := 1) hx (hd 348) (by decide) rfl ?_
  refine r_iadd (pc' := 638) hx (hd 349) rfl ?_
  refine z_sld (pc' := 639) (k := i + 1) C0 hwz hx (hd 350) (lj hL3 (v := 1) (j := 1) (by decide) (by omega)).1 (lj hL3 (v := 1) (j := 1) (by decide) (by omega)).2 rfl ?_
  refine r_aload_n (pc' := 640) hx (hd 351) rfl 0 rfl rfl ?_
  refine r_iload_n (pc' := 641) hx (hd 352) rfl 3 rfl rfl ?_
  refine r_iconst (pc' := 642) (v := 2) hx (hd 353) (by decide) rfl ?_
  refine r_iadd (pc' := 643) hx (hd 354) rfl ?_
  refine z_sld (pc' := 644) (k := i + 2) C0 hwz hx (hd 355) (lj hL3 (v := 2) (j := 2) (by decide) (by omega)).1 (lj hL3 (v := 2) (j := 2) (by decide) (by omega)).2 rfl ?_
  refine r_aload_n (pc' := 645) hx (hd 356) rfl 0 rfl rfl ?_
  refine r_iload_n (pc' := 646) hx (hd 357) rfl 3 rfl rfl ?_
  refine r_iconst (pc' := 647) (v := 3) hx (hd 358) (by decide) rfl ?_
  refine r_iadd (pc' := 648) hx (hd 359) rfl ?_
  refine z_sld (pc' := 649) (k := i + 3) C0 hwz hx (hd 360) (lj hL3 (v := 3) (j := 3) (by decide) (by omega)).1 (lj hL3 (v := 3) (j := 3) (by decide) (by omega)).2 rfl ?_
  refine z_callK (pc' := 652) (As := [.int (xs (i + 1)), .int (xs (i + 2)), .int (xs (i + 3))]) (rest := []) hx (hd 361) md_X11_counted mi_X11_counted ms_X11_counted mlL_93 (cX11_counted l _ hLy t ht (xs (i + 1)) (xs (i + 2)) (xs (i + 3)) M) h1 ht rfl (by decide) ⟨Nat.le_of_ble_eq_true rfl, Nat.le_of_ble_eq_true rfl⟩ rfl rfl (Nat.le_of_ble_eq_true rfl) rfl ?_
  show C _ w _ 4 652 [(0, .ref b), (1, .ref t), (2, .ref u), (3, .int (Int32.ofNat i))] [.int v] M1 (some ())
  refine r_aload_n (pc' := 653) hx (hd 362) rfl 2 rfl rfl ?_
  refine r_aload_n (pc' := 654) hx (hd 363) rfl 0 rfl rfl ?_
  refine r_iload_n (pc' := 655) hx (hd 364) rfl 3 rfl rfl ?_
  refine r_iconst (pc' := 656) (v := 1) hx (hd 365) (by decide) rfl ?_
  refine r_iadd (pc' := 657) hx (hd 366) rfl ?_
  refine z_sld (pc' := 658) (k := i + 1) C0 hwz hx (hd 367) (lj hL3 (v := 1) (j := 1) (by decide) (by omega)).1 (lj hL3 (v := 1) (j := 1) (by decide) (by omega)).2 rfl ?_
  refine r_aload_n (pc' := 659) hx (hd 368) rfl 0 rfl rfl ?_
  refine r_iload_n (pc' := 660) hx (hd 369) rfl 3 rfl rfl ?_
  refine r_iconst (pc' := 661) (v := 2) hx (hd 370) (by decide) rfl ?_
  refine r_iadd (pc' := 662) hx (hd 371) rfl ?_
  refine z_sld (pc' := 663) (k := i + 2) C0 hwz hx (hd 372) (lj hL3 (v := 2) (j := 2) (by decide) (by omega)).1 (lj hL3 (v := 2) (j := 2) (by decide) (by omega)).2 rfl ?_
  refine r_aload_n (pc' := 664) hx (hd 373) rfl 0 rfl rfl ?_
  refine r_iload_n (pc' := 665) hx (hd 374) rfl 3 rfl rfl ?_
  refine r_iconst (pc' := 666) (v := 3) hx (hd 375) (by decide) rfl ?_
  refine r_iadd (pc' := 667) hx (hd 376) rfl ?_
  refine z_sld (pc' := 668) (k := i + 3) C0 hwz hx (hd 377) (lj hL3 (v := 3) (j := 3) (by decide) (by omega)).1 (lj hL3 (v := 3) (j := 3) (by decide) (by omega)).2 rfl ?_
  refine z_callK (pc' := 671) (As := [.int (xs (i + 1)), .int (xs (i + 2)), .int (xs (i + 3))]) (rest := [.int v]) hx (hd 378) md_X12_counted mi_X12_counted ms_X12_counted mlL_97 (cX12_counted l _ hLy u hu (xs (i + 1)) (xs (i + 2)) (xs (i + 3)) M1) h2 hu rfl (by decide) ⟨Nat.le_of_ble_eq_true rfl, Nat.le_of_ble_eq_true rfl⟩ rfl rfl (Nat.le_of_ble_eq_true rfl) rfl ?_
  show C _ w _ 4 671 [(0, .ref b), (1, .ref t), (2, .ref u), (3, .int (Int32.ofNat i))] [.int v, .int v] M2 (some ())
  refine z_iceq (tgt := 1089) hx (hd 379) (by decide) rfl ?_
  refine z_iinc (pc' := 1092) (v := Int32.ofNat (i + 6)) (L' := [(3, .int (Int32.ofNat (i + 6))), (0, .ref b), (1, .ref t), (2, .ref u)]) (j := 3) hx (hd 693) rfl (l6 (by omega)) (by decide) rfl rfl ?_
  refine r_goto (tgt := 18) hx (hd 694) (by decide) ?_
  refine r_sub [1, 2, 3, 0] rfl ?_
  exact nx.le (by omega) (by omega) w M2 T hx hwz hLy ht hu hT hI2
set_option maxRecDepth 20000 in
theorem lp_kept {p : Program} {l : Launch} {e : Env} {s : State} {m : MethodId} {below : List Frame} {meth : Method} {c : Code} {b L : Nat} {xs : Nat → Int32} {Inv : Nat → Nat → Nat → Mem → Prop} (hL3 : L ≤ 3072) (C0 : lw_At p s m meth c b L xs) (hSt : St_kept Inv) (t u i K N : Nat) (hi : i + 6 ≤ L) (nx : LpN p l e s m below meth c b L Inv t u (i + 6) (K + 3) (N + 877)) : LpB p l e s m below meth c b L Inv t u i K N 676 := by
  intro w M T hx hwz hLy ht hu hT hI
  have hd : ∀ i, DAt (xc (lx p l e s m below meth c b)).code (tbL[i]?) := fun i => by show DAt c.code _; rw [C0.2.1]; exact dat_of dL i
  obtain ⟨v, M1, M2, h1, h2, hI2⟩ := hSt t u T M (xs (i + 1)) hI
  refine r_aload_n (pc' := 677) hx (hd 382) rfl 1 rfl rfl ?_
  refine r_aload_n (pc' := 678) hx (hd 383) rfl 0 rfl rfl ?_
  refine r_iload_n (pc' := 679) hx (hd 384) rfl 3 rfl rfl ?_
  refine r_iconst (pc' := 680) (v := 1) hx (hd 385) (by decide) rfl ?_
  refine r_iadd (pc' := 681) hx (hd 386) rfl ?_
  refine z_sld (pc' := 682) (k := i + 1) C0 hwz hx (hd 387) (lj hL3 (v := 1) (j := 1) (by decide) (by omega)).1 (lj hL3 (v := 1) (j := 1) (by decide) (by omega)).2 rfl ?_
  refine z_callK (pc' := 685) (As := [.int (xs (i + 1))]) (rest := []) hx (hd 388) md_X11_kept mi_X11_kept ms_X11_kept mlL_98 (cX11_kept l _ hLy t ht (xs (i + 1)) M) h1 ht rfl (by decide) ⟨Nat.le_of_ble_eq_true rfl, Nat.le_of_ble_eq_true rfl⟩ rfl rfl (Nat.le_of_ble_eq_true rfl) rfl ?_
  show C _ w _ 4 685 [(0, .ref b), (1, .ref t), (2, .ref u), (3, .int (Int32.ofNat i))] [.int v] M1 (some ())
  refine r_aload_n (pc' := 686) hx (hd 389) rfl 2 rfl rfl ?_
  refine r_aload_n (pc' := 687) hx (hd 390) rfl 0 rfl rfl ?_
  refine r_iload_n (pc' := 688) hx (hd 391) rfl 3 rfl rfl ?_
  refine r_iconst (pc' := 689) (v := 1) hx (hd 392) (by decide) rfl ?_
  refine r_iadd (pc' := 690) hx (hd 393) rfl ?_
  refine z_sld (pc' := 691) (k := i + 1) C0 hwz hx (hd 394) (lj hL3 (v := 1) (j := 1) (by decide) (by omega)).1 (lj hL3 (v := 1) (j := 1) (by decide) (by omega)).2 rfl ?_
  refine z_callK (pc' := 694) (As := [.int (xs (i + 1))]) (rest := [.int v]) hx (hd 395) md_X12_kept mi_X12_kept ms_X12_kept mlL_101 (cX12_kept l _ hLy u hu (xs (i + 1)) M1) h2 hu rfl (by decide) ⟨Nat.le_of_ble_eq_true rfl, Nat.le_of_ble_eq_true rfl⟩ rfl rfl (Nat.le_of_ble_eq_true rfl) rfl ?_
  show C _ w _ 4 694 [(0, .ref b), (1, .ref t), (2, .ref u), (3, .int (Int32.ofNat i))] [.int v, .int v] M2 (some ())
  refine z_iceq (tgt := 1089) hx (hd 396) (by decide) rfl ?_
  refine z_iinc (pc' := 1092) (v := Int32.ofNat (i + 6)) (L' := [(3, .int (Int32.ofNat (i + 6))), (0, .ref b), (1, .ref t), (2, .ref u)]) (j := 3) hx (hd 693) rfl (l6 (by omega)) (by decide) rfl rfl ?_
  refine r_goto (tgt := 18) hx (hd 694) (by decide) ?_
  refine r_sub [1, 2, 3, 0] rfl ?_
  exact nx.le (by omega) (by omega) w M2 T hx hwz hLy ht hu hT hI2
set_option maxRecDepth 20000 in
theorem lp_cribOf {p : Program} {l : Launch} {e : Env} {s : State} {m : MethodId} {below : List Frame} {meth : Method} {c : Code} {b L : Nat} {xs : Nat → Int32} {Inv : Nat → Nat → Nat → Mem → Prop} (hL3 : L ≤ 3072) (C0 : lw_At p s m meth c b L xs) (hSt : St_cribOf Inv) (t u i K N : Nat) (hi : i + 6 ≤ L) (nx : LpN p l e s m below meth c b L Inv t u (i + 6) (K + 3) (N + 877)) : LpB p l e s m below meth c b L Inv t u i K N 699 := by
  intro w M T hx hwz hLy ht hu hT hI
  have hd : ∀ i, DAt (xc (lx p l e s m below meth c b)).code (tbL[i]?) := fun i => by show DAt c.code _; rw [C0.2.1]; exact dat_of dL i
  obtain ⟨v, M1, M2, h1, h2, hI2⟩ := hSt t u T M (xs (i + 1)) (xs (i + 2)) hI
  refine r_aload_n (pc' := 700) hx (hd 399) rfl 1 rfl rfl ?_
  refine r_aload_n (pc' := 701) hx (hd 400) rfl 0 rfl rfl ?_
  refine r_iload_n (pc' := 702) hx (hd 401) rfl 3 rfl rfl ?_
  refine r_iconst (pc' := 703) (v := 1) hx (hd 402) (by decide) rfl ?_
  refine r_iadd (pc' := 704) hx (hd 403) rfl ?_
  refine z_sld (pc' := 705) (k := i + 1) C0 hwz hx (hd 404) (lj hL3 (v := 1) (j := 1) (by decide) (by omega)).1 (lj hL3 (v := 1) (j := 1) (by decide) (by omega)).2 rfl ?_
  refine r_aload_n (pc' := 706) hx (hd 405) rfl 0 rfl rfl ?_
  refine r_iload_n (pc' := 707) hx (hd 406) rfl 3 rfl rfl ?_
  refine r_iconst (pc' := 708) (v := 2) hx (hd 407) (by decide) rfl ?_
  refine r_iadd (pc' := 709) hx (hd 408) rfl ?_
  refine z_sld (pc' := 710) (k := i + 2) C0 hwz hx (hd 409) (lj hL3 (v := 2) (j := 2) (by decide) (by omega)).1 (lj hL3 (v := 2) (j := 2) (by decide) (by omega)).2 rfl ?_
  refine z_callK (pc' := 713) (As := [.int (xs (i + 1)), .int (xs (i + 2))]) (rest := []) hx (hd 410) md_X11_cribOf mi_X11_cribOf ms_X11_cribOf mlL_102 (cX11_cribOf l _ hLy t ht (xs (i + 1)) (xs (i + 2)) M) h1 ht rfl (by decide) ⟨Nat.le_of_ble_eq_true rfl, Nat.le_of_ble_eq_true rfl⟩ rfl rfl (Nat.le_of_ble_eq_true rfl) rfl ?_
  show C _ w _ 4 713 [(0, .ref b), (1, .ref t), (2, .ref u), (3, .int (Int32.ofNat i))] [.long v] M1 (some ())
  refine r_aload_n (pc' := 714) hx (hd 411) rfl 2 rfl rfl ?_
  refine r_aload_n (pc' := 715) hx (hd 412) rfl 0 rfl rfl ?_
  refine r_iload_n (pc' := 716) hx (hd 413) rfl 3 rfl rfl ?_
  refine r_iconst (pc' := 717) (v := 1) hx (hd 414) (by decide) rfl ?_
  refine r_iadd (pc' := 718) hx (hd 415) rfl ?_
  refine z_sld (pc' := 719) (k := i + 1) C0 hwz hx (hd 416) (lj hL3 (v := 1) (j := 1) (by decide) (by omega)).1 (lj hL3 (v := 1) (j := 1) (by decide) (by omega)).2 rfl ?_
  refine r_aload_n (pc' := 720) hx (hd 417) rfl 0 rfl rfl ?_
  refine r_iload_n (pc' := 721) hx (hd 418) rfl 3 rfl rfl ?_
  refine r_iconst (pc' := 722) (v := 2) hx (hd 419) (by decide) rfl ?_
  refine r_iadd (pc' := 723) hx (hd 420) rfl ?_
  refine z_sld (pc' := 724) (k := i + 2) C0 hwz hx (hd 421) (lj hL3 (v := 2) (j := 2) (by decide) (by omega)).1 (lj hL3 (v := 2) (j := 2) (by decide) (by omega)).2 rfl ?_
  refine z_callK (pc' := 727) (As := [.int (xs (i + 1)), .int (xs (i + 2))]) (rest := [.long v]) hx (hd 422) md_X12_cribOf mi_X12_cribOf ms_X12_cribOf mlL_106 (cX12_cribOf l _ hLy u hu (xs (i + 1)) (xs (i + 2)) M1) h2 hu rfl (by decide) ⟨Nat.le_of_ble_eq_true rfl, Nat.le_of_ble_eq_true rfl⟩ rfl rfl (Nat.le_of_ble_eq_true rfl) rfl ?_
  show C _ w _ 4 727 [(0, .ref b), (1, .ref t), (2, .ref u), (3, .int (Int32.ofNat i))] [.long v, .long v] M2 (some ())
  refine z_lceq (tgt := 1089) hx (hd 423) (hd 424) (by decide) rfl ?_
  refine z_iinc (pc' := 1092) (v := Int32.ofNat (i + 6)) (L' := [(3, .int (Int32.ofNat (i + 6))), (0, .ref b), (1, .ref t), (2, .ref u)]) (j := 3) hx (hd 693) rfl (l6 (by omega)) (by decide) rfl rfl ?_
  refine r_goto (tgt := 18) hx (hd 694) (by decide) ?_
  refine r_sub [1, 2, 3, 0] rfl ?_
  exact nx.le (by omega) (by omega) w M2 T hx hwz hLy ht hu hT hI2
set_option maxRecDepth 20000 in
theorem lp_byStarters {p : Program} {l : Launch} {e : Env} {s : State} {m : MethodId} {below : List Frame} {meth : Method} {c : Code} {b L : Nat} {xs : Nat → Int32} {Inv : Nat → Nat → Nat → Mem → Prop} (hL3 : L ≤ 3072) (C0 : lw_At p s m meth c b L xs) (hSt : St_byStarters Inv) (t u i K N : Nat) (hi : i + 6 ≤ L) (nx : LpN p l e s m below meth c b L Inv t u (i + 6) (K + 3) (N + 877)) : LpB p l e s m below meth c b L Inv t u i K N 733 := by
  intro w M T hx hwz hLy ht hu hT hI
  have hd : ∀ i, DAt (xc (lx p l e s m below meth c b)).code (tbL[i]?) := fun i => by show DAt c.code _; rw [C0.2.1]; exact dat_of dL i
  obtain ⟨v, M1, M2, h1, h2, hI2⟩ := hSt t u T M (xs (i + 1)) hI
  refine r_aload_n (pc' := 734) hx (hd 427) rfl 1 rfl rfl ?_
  refine r_aload_n (pc' := 735) hx (hd 428) rfl 0 rfl rfl ?_
  refine r_iload_n (pc' := 736) hx (hd 429) rfl 3 rfl rfl ?_
  refine r_iconst (pc' := 737) (v := 1) hx (hd 430) (by decide) rfl ?_
  refine r_iadd (pc' := 738) hx (hd 431) rfl ?_
  refine z_sld (pc' := 739) (k := i + 1) C0 hwz hx (hd 432) (lj hL3 (v := 1) (j := 1) (by decide) (by omega)).1 (lj hL3 (v := 1) (j := 1) (by decide) (by omega)).2 rfl ?_
  refine z_callK (pc' := 742) (As := [.int (xs (i + 1))]) (rest := []) hx (hd 433) md_X11_byStarters mi_X11_byStarters ms_X11_byStarters mlL_107 (cX11_byStarters l _ hLy t ht (xs (i + 1)) M) h1 ht rfl (by decide) ⟨Nat.le_of_ble_eq_true rfl, Nat.le_of_ble_eq_true rfl⟩ rfl rfl (Nat.le_of_ble_eq_true rfl) rfl ?_
  show C _ w _ 4 742 [(0, .ref b), (1, .ref t), (2, .ref u), (3, .int (Int32.ofNat i))] [.int v] M1 (some ())
  refine r_aload_n (pc' := 743) hx (hd 434) rfl 2 rfl rfl ?_
  refine r_aload_n (pc' := 744) hx (hd 435) rfl 0 rfl rfl ?_
  refine r_iload_n (pc' := 745) hx (hd 436) rfl 3 rfl rfl ?_
  refine r_iconst (pc' := 746) (v := 1) hx (hd 437) (by decide) rfl ?_
  refine r_iadd (pc' := 747) hx (hd 438) rfl ?_
  refine z_sld (pc' := 748) (k := i + 1) C0 hwz hx (hd 439) (lj hL3 (v := 1) (j := 1) (by decide) (by omega)).1 (lj hL3 (v := 1) (j := 1) (by decide) (by omega)).2 rfl ?_
  refine z_callK (pc' := 751) (As := [.int (xs (i + 1))]) (rest := [.int v]) hx (hd 440) md_X12_byStarters mi_X12_byStarters ms_X12_byStarters mlL_110 (cX12_byStarters l _ hLy u hu (xs (i + 1)) M1) h2 hu rfl (by decide) ⟨Nat.le_of_ble_eq_true rfl, Nat.le_of_ble_eq_true rfl⟩ rfl rfl (Nat.le_of_ble_eq_true rfl) rfl ?_
  show C _ w _ 4 751 [(0, .ref b), (1, .ref t), (2, .ref u), (3, .int (Int32.ofNat i))] [.int v, .int v] M2 (some ())
  refine z_iceq (tgt := 1089) hx (hd 441) (by decide) rfl ?_
  refine z_iinc (pc' := 1092) (v := Int32.ofNat (i + 6)) (L' := [(3, .int (Int32.ofNat (i + 6))), (0, .ref b), (1, .ref t), (2, .ref u)]) (j := 3) hx (hd 693) rfl (l6 (by omega)) (by decide) rfl rfl ?_
  refine r_goto (tgt := 18) hx (hd 694) (by decide) ?_
  refine r_sub [1, 2, 3, 0] rfl ?_
  exact nx.le (by omega) (by omega) w M2 T hx hwz hLy ht hu hT hI2
set_option maxRecDepth 20000 in
theorem lp_bestStarter {p : Program} {l : Launch} {e : Env} {s : State} {m : MethodId} {below : List Frame} {meth : Method} {c : Code} {b L : Nat} {xs : Nat → Int32} {Inv : Nat → Nat → Nat → Mem → Prop} (hL3 : L ≤ 3072) (C0 : lw_At p s m meth c b L xs) (hSt : St_bestStarter Inv) (t u i K N : Nat) (hi : i + 6 ≤ L) (nx : LpN p l e s m below meth c b L Inv t u (i + 6) (K + 3) (N + 877)) : LpB p l e s m below meth c b L Inv t u i K N 756 := by
  intro w M T hx hwz hLy ht hu hT hI
  have hd : ∀ i, DAt (xc (lx p l e s m below meth c b)).code (tbL[i]?) := fun i => by show DAt c.code _; rw [C0.2.1]; exact dat_of dL i
  obtain ⟨v, M1, M2, h1, h2, hI2⟩ := hSt t u T M (xs (i + 1)) hI
  refine r_aload_n (pc' := 757) hx (hd 444) rfl 1 rfl rfl ?_
  refine r_aload_n (pc' := 758) hx (hd 445) rfl 0 rfl rfl ?_
  refine r_iload_n (pc' := 759) hx (hd 446) rfl 3 rfl rfl ?_
  refine r_iconst (pc' := 760) (v := 1) hx (hd 447) (by decide) rfl ?_
  refine r_iadd (pc' := 761) hx (hd 448) rfl ?_
  refine z_sld (pc' := 762) (k := i + 1) C0 hwz hx (hd 449) (lj hL3 (v := 1) (j := 1) (by decide) (by omega)).1 (lj hL3 (v := 1) (j := 1) (by decide) (by omega)).2 rfl ?_
  refine z_callK (pc' := 765) (As := [.int (xs (i + 1))]) (rest := []) hx (hd 450) md_X11_bestStarter mi_X11_bestStarter ms_X11_bestStarter mlL_111 (cX11_bestStarter l _ hLy t ht (xs (i + 1)) M) h1 ht rfl (by decide) ⟨Nat.le_of_ble_eq_true rfl, Nat.le_of_ble_eq_true rfl⟩ rfl rfl (Nat.le_of_ble_eq_true rfl) rfl ?_
  show C _ w _ 4 765 [(0, .ref b), (1, .ref t), (2, .ref u), (3, .int (Int32.ofNat i))] [.int v] M1 (some ())
  refine r_aload_n (pc' := 766) hx (hd 451) rfl 2 rfl rfl ?_
  refine r_aload_n (pc' := 767) hx (hd 452) rfl 0 rfl rfl ?_
  refine r_iload_n (pc' := 768) hx (hd 453) rfl 3 rfl rfl ?_
  refine r_iconst (pc' := 769) (v := 1) hx (hd 454) (by decide) rfl ?_
  refine r_iadd (pc' := 770) hx (hd 455) rfl ?_
  refine z_sld (pc' := 771) (k := i + 1) C0 hwz hx (hd 456) (lj hL3 (v := 1) (j := 1) (by decide) (by omega)).1 (lj hL3 (v := 1) (j := 1) (by decide) (by omega)).2 rfl ?_
  refine z_callK (pc' := 774) (As := [.int (xs (i + 1))]) (rest := [.int v]) hx (hd 457) md_X12_bestStarter mi_X12_bestStarter ms_X12_bestStarter mlL_114 (cX12_bestStarter l _ hLy u hu (xs (i + 1)) M1) h2 hu rfl (by decide) ⟨Nat.le_of_ble_eq_true rfl, Nat.le_of_ble_eq_true rfl⟩ rfl rfl (Nat.le_of_ble_eq_true rfl) rfl ?_
  show C _ w _ 4 774 [(0, .ref b), (1, .ref t), (2, .ref u), (3, .int (Int32.ofNat i))] [.int v, .int v] M2 (some ())
  refine z_iceq (tgt := 1089) hx (hd 458) (by decide) rfl ?_
  refine z_iinc (pc' := 1092) (v := Int32.ofNat (i + 6)) (L' := [(3, .int (Int32.ofNat (i + 6))), (0, .ref b), (1, .ref t), (2, .ref u)]) (j := 3) hx (hd 693) rfl (l6 (by omega)) (by decide) rfl rfl ?_
  refine r_goto (tgt := 18) hx (hd 694) (by decide) ?_
  refine r_sub [1, 2, 3, 0] rfl ?_
  exact nx.le (by omega) (by omega) w M2 T hx hwz hLy ht hu hT hI2
set_option maxRecDepth 20000 in
theorem lp_toEnd {p : Program} {l : Launch} {e : Env} {s : State} {m : MethodId} {below : List Frame} {meth : Method} {c : Code} {b L : Nat} {xs : Nat → Int32} {Inv : Nat → Nat → Nat → Mem → Prop} (hL3 : L ≤ 3072) (C0 : lw_At p s m meth c b L xs) (hSt : St_toEnd Inv) (t u i K N : Nat) (hi : i + 6 ≤ L) (nx : LpN p l e s m below meth c b L Inv t u (i + 6) (K + 3) (N + 877)) : LpB p l e s m below meth c b L Inv t u i K N 779 := by
  intro w M T hx hwz hLy ht hu hT hI
  have hd : ∀ i, DAt (xc (lx p l e s m below meth c b)).code (tbL[i]?) := fun i => by show DAt c.code _; rw [C0.2.1]; exact dat_of dL i
  obtain ⟨v, M1, M2, h1, h2, hI2⟩ := hSt t u T M (xs (i + 1)) hI
  refine r_aload_n (pc' := 780) hx (hd 461) rfl 1 rfl rfl ?_
  refine r_aload_n (pc' := 781) hx (hd 462) rfl 0 rfl rfl ?_
  refine r_iload_n (pc' := 782) hx (hd 463) rfl 3 rfl rfl ?_
  refine r_iconst (pc' := 783) (v := 1) hx (hd 464) (by decide) rfl ?_
  refine r_iadd (pc' := 784) hx (hd 465) rfl ?_
  refine z_sld (pc' := 785) (k := i + 1) C0 hwz hx (hd 466) (lj hL3 (v := 1) (j := 1) (by decide) (by omega)).1 (lj hL3 (v := 1) (j := 1) (by decide) (by omega)).2 rfl ?_
  refine z_callK (pc' := 788) (As := [.int (xs (i + 1))]) (rest := []) hx (hd 467) md_X11_toEnd mi_X11_toEnd ms_X11_toEnd mlL_115 (cX11_toEnd l _ hLy t ht (xs (i + 1)) M) h1 ht rfl (by decide) ⟨Nat.le_of_ble_eq_true rfl, Nat.le_of_ble_eq_true rfl⟩ rfl rfl (Nat.le_of_ble_eq_true rfl) rfl ?_
  show C _ w _ 4 788 [(0, .ref b), (1, .ref t), (2, .ref u), (3, .int (Int32.ofNat i))] [.int v] M1 (some ())
  refine r_aload_n (pc' := 789) hx (hd 468) rfl 2 rfl rfl ?_
  refine r_aload_n (pc' := 790) hx (hd 469) rfl 0 rfl rfl ?_
  refine r_iload_n (pc' := 791) hx (hd 470) rfl 3 rfl rfl ?_
  refine r_iconst (pc' := 792) (v := 1) hx (hd 471) (by decide) rfl ?_
  refine r_iadd (pc' := 793) hx (hd 472) rfl ?_
  refine z_sld (pc' := 794) (k := i + 1) C0 hwz hx (hd 473) (lj hL3 (v := 1) (j := 1) (by decide) (by omega)).1 (lj hL3 (v := 1) (j := 1) (by decide) (by omega)).2 rfl ?_
  refine z_callK (pc' := 797) (As := [.int (xs (i + 1))]) (rest := [.int v]) hx (hd 474) md_X12_toEnd mi_X12_toEnd ms_X12_toEnd mlL_118 (cX12_toEnd l _ hLy u hu (xs (i + 1)) M1) h2 hu rfl (by decide) ⟨Nat.le_of_ble_eq_true rfl, Nat.le_of_ble_eq_true rfl⟩ rfl rfl (Nat.le_of_ble_eq_true rfl) rfl ?_
  show C _ w _ 4 797 [(0, .ref b), (1, .ref t), (2, .ref u), (3, .int (Int32.ofNat i))] [.int v, .int v] M2 (some ())
  refine z_iceq (tgt := 1089) hx (hd 475) (by decide) rfl ?_
  refine z_iinc (pc' := 1092) (v := Int32.ofNat (i + 6)) (L' := [(3, .int (Int32.ofNat (i + 6))), (0, .ref b), (1, .ref t), (2, .ref u)]) (j := 3) hx (hd 693) rfl (l6 (by omega)) (by decide) rfl rfl ?_
  refine r_goto (tgt := 18) hx (hd 694) (by decide) ?_
  refine r_sub [1, 2, 3, 0] rfl ?_
  exact nx.le (by omega) (by omega) w M2 T hx hwz hLy ht hu hT hI2
set_option maxRecDepth 20000 in
theorem lp_seen {p : Program} {l : Launch} {e : Env} {s : State} {m : MethodId} {below : List Frame} {meth : Method} {c : Code} {b L : Nat} {xs : Nat → Int32} {Inv : Nat → Nat → Nat → Mem → Prop} (hL3 : L ≤ 3072) (C0 : lw_At p s m meth c b L xs) (hSt : St_seen Inv) (t u i K N : Nat) (hi : i + 6 ≤ L) (nx : LpN p l e s m below meth c b L Inv t u (i + 6) (K + 3) (N + 877)) : LpB p l e s m below meth c b L Inv t u i K N 802 := by
  intro w M T hx hwz hLy ht hu hT hI
  have hd : ∀ i, DAt (xc (lx p l e s m below meth c b)).code (tbL[i]?) := fun i => by show DAt c.code _; rw [C0.2.1]; exact dat_of dL i
  obtain ⟨v, M1, M2, h1, h2, hI2⟩ := hSt t u T M (xs (i + 1)) (xs (i + 2)) hI
  refine r_aload_n (pc' := 803) hx (hd 478) rfl 1 rfl rfl ?_
  refine r_aload_n (pc' := 804) hx (hd 479) rfl 0 rfl rfl ?_
  refine r_iload_n (pc' := 805) hx (hd 480) rfl 3 rfl rfl ?_
  refine r_iconst (pc' := 806) (v := 1) hx (hd 481) (by decide) rfl ?_
  refine r_iadd (pc' := 807) hx (hd 482) rfl ?_
  refine z_sld (pc' := 808) (k := i + 1) C0 hwz hx (hd 483) (lj hL3 (v := 1) (j := 1) (by decide) (by omega)).1 (lj hL3 (v := 1) (j := 1) (by decide) (by omega)).2 rfl ?_
  refine r_aload_n (pc' := 809) hx (hd 484) rfl 0 rfl rfl ?_
  refine r_iload_n (pc' := 810) hx (hd 485) rfl 3 rfl rfl ?_
  refine r_iconst (pc' := 811) (v := 2) hx (hd 486) (by decide) rfl ?_
  refine r_iadd (pc' := 812) hx (hd 487) rfl ?_
  refine z_sld (pc' := 813) (k := i + 2) C0 hwz hx (hd 488) (lj hL3 (v := 2) (j := 2) (by decide) (by omega)).1 (lj hL3 (v := 2) (j := 2) (by decide) (by omega)).2 rfl ?_
  refine z_callK (pc' := 816) (As := [.int (xs (i + 1)), .int (xs (i + 2))]) (rest := []) hx (hd 489) md_X11_seen mi_X11_seen ms_X11_seen mlL_119 (cX11_seen l _ hLy t ht (xs (i + 1)) (xs (i + 2)) M) h1 ht rfl (by decide) ⟨Nat.le_of_ble_eq_true rfl, Nat.le_of_ble_eq_true rfl⟩ rfl rfl (Nat.le_of_ble_eq_true rfl) rfl ?_
  show C _ w _ 4 816 [(0, .ref b), (1, .ref t), (2, .ref u), (3, .int (Int32.ofNat i))] [.int v] M1 (some ())
  refine r_aload_n (pc' := 817) hx (hd 490) rfl 2 rfl rfl ?_
  refine r_aload_n (pc' := 818) hx (hd 491) rfl 0 rfl rfl ?_
  refine r_iload_n (pc' := 819) hx (hd 492) rfl 3 rfl rfl ?_
  refine r_iconst (pc' := 820) (v := 1) hx (hd 493) (by decide) rfl ?_
  refine r_iadd (pc' := 821) hx (hd 494) rfl ?_
  refine z_sld (pc' := 822) (k := i + 1) C0 hwz hx (hd 495) (lj hL3 (v := 1) (j := 1) (by decide) (by omega)).1 (lj hL3 (v := 1) (j := 1) (by decide) (by omega)).2 rfl ?_
  refine r_aload_n (pc' := 823) hx (hd 496) rfl 0 rfl rfl ?_
  refine r_iload_n (pc' := 824) hx (hd 497) rfl 3 rfl rfl ?_
  refine r_iconst (pc' := 825) (v := 2) hx (hd 498) (by decide) rfl ?_
  refine r_iadd (pc' := 826) hx (hd 499) rfl ?_
  refine z_sld (pc' := 827) (k := i + 2) C0 hwz hx (hd 500) (lj hL3 (v := 2) (j := 2) (by decide) (by omega)).1 (lj hL3 (v := 2) (j := 2) (by decide) (by omega)).2 rfl ?_
  refine z_callK (pc' := 830) (As := [.int (xs (i + 1)), .int (xs (i + 2))]) (rest := [.int v]) hx (hd 501) md_X12_seen mi_X12_seen ms_X12_seen mlL_122 (cX12_seen l _ hLy u hu (xs (i + 1)) (xs (i + 2)) M1) h2 hu rfl (by decide) ⟨Nat.le_of_ble_eq_true rfl, Nat.le_of_ble_eq_true rfl⟩ rfl rfl (Nat.le_of_ble_eq_true rfl) rfl ?_
  show C _ w _ 4 830 [(0, .ref b), (1, .ref t), (2, .ref u), (3, .int (Int32.ofNat i))] [.int v, .int v] M2 (some ())
  refine z_iceq (tgt := 1089) hx (hd 502) (by decide) rfl ?_
  refine z_iinc (pc' := 1092) (v := Int32.ofNat (i + 6)) (L' := [(3, .int (Int32.ofNat (i + 6))), (0, .ref b), (1, .ref t), (2, .ref u)]) (j := 3) hx (hd 693) rfl (l6 (by omega)) (by decide) rfl rfl ?_
  refine r_goto (tgt := 18) hx (hd 694) (by decide) ?_
  refine r_sub [1, 2, 3, 0] rfl ?_
  exact nx.le (by omega) (by omega) w M2 T hx hwz hLy ht hu hT hI2
set_option maxRecDepth 20000 in
theorem lp_forget {p : Program} {l : Launch} {e : Env} {s : State} {m : MethodId} {below : List Frame} {meth : Method} {c : Code} {b L : Nat} {xs : Nat → Int32} {Inv : Nat → Nat → Nat → Mem → Prop} (hL3 : L ≤ 3072) (C0 : lw_At p s m meth c b L xs) (hSt : St_forget Inv) (t u i K N : Nat) (hi : i + 6 ≤ L) (nx : LpN p l e s m below meth c b L Inv t u (i + 6) (K + 3) (N + 877)) : LpB p l e s m below meth c b L Inv t u i K N 835 := by
  intro w M T hx hwz hLy ht hu hT hI
  have hd : ∀ i, DAt (xc (lx p l e s m below meth c b)).code (tbL[i]?) := fun i => by show DAt c.code _; rw [C0.2.1]; exact dat_of dL i
  obtain ⟨v, M1, M2, h1, h2, hI2⟩ := hSt t u T M  hI
  refine r_aload_n (pc' := 836) hx (hd 505) rfl 1 rfl rfl ?_
  refine z_callK (pc' := 839) (As := []) (rest := []) hx (hd 506) md_X11_forget mi_X11_forget ms_X11_forget mlL_123 (cX11_forget l _ hLy t ht  M) h1 ht rfl (by decide) ⟨Nat.le_of_ble_eq_true rfl, Nat.le_of_ble_eq_true rfl⟩ rfl rfl (Nat.le_of_ble_eq_true rfl) rfl ?_
  show C _ w _ 4 839 [(0, .ref b), (1, .ref t), (2, .ref u), (3, .int (Int32.ofNat i))] [.int v] M1 (some ())
  refine r_aload_n (pc' := 840) hx (hd 507) rfl 2 rfl rfl ?_
  refine z_callK (pc' := 843) (As := []) (rest := [.int v]) hx (hd 508) md_X12_forget mi_X12_forget ms_X12_forget mlL_126 (cX12_forget l _ hLy u hu  M1) h2 hu rfl (by decide) ⟨Nat.le_of_ble_eq_true rfl, Nat.le_of_ble_eq_true rfl⟩ rfl rfl (Nat.le_of_ble_eq_true rfl) rfl ?_
  show C _ w _ 4 843 [(0, .ref b), (1, .ref t), (2, .ref u), (3, .int (Int32.ofNat i))] [.int v, .int v] M2 (some ())
  refine z_iceq (tgt := 1089) hx (hd 509) (by decide) rfl ?_
  refine z_iinc (pc' := 1092) (v := Int32.ofNat (i + 6)) (L' := [(3, .int (Int32.ofNat (i + 6))), (0, .ref b), (1, .ref t), (2, .ref u)]) (j := 3) hx (hd 693) rfl (l6 (by omega)) (by decide) rfl rfl ?_
  refine r_goto (tgt := 18) hx (hd 694) (by decide) ?_
  refine r_sub [1, 2, 3, 0] rfl ?_
  exact nx.le (by omega) (by omega) w M2 T hx hwz hLy ht hu hT hI2
set_option maxRecDepth 20000 in
theorem lp_canBe {p : Program} {l : Launch} {e : Env} {s : State} {m : MethodId} {below : List Frame} {meth : Method} {c : Code} {b L : Nat} {xs : Nat → Int32} {Inv : Nat → Nat → Nat → Mem → Prop} (hL3 : L ≤ 3072) (C0 : lw_At p s m meth c b L xs) (hSt : St_canBe Inv) (t u i K N : Nat) (hi : i + 6 ≤ L) (nx : LpN p l e s m below meth c b L Inv t u (i + 6) (K + 3) (N + 877)) : LpB p l e s m below meth c b L Inv t u i K N 848 := by
  intro w M T hx hwz hLy ht hu hT hI
  have hd : ∀ i, DAt (xc (lx p l e s m below meth c b)).code (tbL[i]?) := fun i => by show DAt c.code _; rw [C0.2.1]; exact dat_of dL i
  obtain ⟨v, M1, M2, h1, h2, hI2⟩ := hSt t u T M  hI
  refine r_aload_n (pc' := 849) hx (hd 512) rfl 1 rfl rfl ?_
  refine z_callK (pc' := 852) (As := []) (rest := []) hx (hd 513) md_X11_canBe mi_X11_canBe ms_X11_canBe mlL_127 (cX11_canBe l _ hLy t ht  M) h1 ht rfl (by decide) ⟨Nat.le_of_ble_eq_true rfl, Nat.le_of_ble_eq_true rfl⟩ rfl rfl (Nat.le_of_ble_eq_true rfl) rfl ?_
  show C _ w _ 4 852 [(0, .ref b), (1, .ref t), (2, .ref u), (3, .int (Int32.ofNat i))] [.int v] M1 (some ())
  refine r_aload_n (pc' := 853) hx (hd 514) rfl 2 rfl rfl ?_
  refine z_callK (pc' := 856) (As := []) (rest := [.int v]) hx (hd 515) md_X12_canBe mi_X12_canBe ms_X12_canBe mlL_130 (cX12_canBe l _ hLy u hu  M1) h2 hu rfl (by decide) ⟨Nat.le_of_ble_eq_true rfl, Nat.le_of_ble_eq_true rfl⟩ rfl rfl (Nat.le_of_ble_eq_true rfl) rfl ?_
  show C _ w _ 4 856 [(0, .ref b), (1, .ref t), (2, .ref u), (3, .int (Int32.ofNat i))] [.int v, .int v] M2 (some ())
  refine z_iceq (tgt := 1089) hx (hd 516) (by decide) rfl ?_
  refine z_iinc (pc' := 1092) (v := Int32.ofNat (i + 6)) (L' := [(3, .int (Int32.ofNat (i + 6))), (0, .ref b), (1, .ref t), (2, .ref u)]) (j := 3) hx (hd 693) rfl (l6 (by omega)) (by decide) rfl rfl ?_
  refine r_goto (tgt := 18) hx (hd 694) (by decide) ?_
  refine r_sub [1, 2, 3, 0] rfl ?_
  exact nx.le (by omega) (by omega) w M2 T hx hwz hLy ht hu hT hI2
set_option maxRecDepth 20000 in
theorem lp_ask {p : Program} {l : Launch} {e : Env} {s : State} {m : MethodId} {below : List Frame} {meth : Method} {c : Code} {b L : Nat} {xs : Nat → Int32} {Inv : Nat → Nat → Nat → Mem → Prop} (hL3 : L ≤ 3072) (C0 : lw_At p s m meth c b L xs) (hSt : St_ask Inv) (t u i K N : Nat) (hi : i + 6 ≤ L) (nx : LpN p l e s m below meth c b L Inv t u (i + 6) (K + 3) (N + 877)) : LpB p l e s m below meth c b L Inv t u i K N 861 := by
  intro w M T hx hwz hLy ht hu hT hI
  have hd : ∀ i, DAt (xc (lx p l e s m below meth c b)).code (tbL[i]?) := fun i => by show DAt c.code _; rw [C0.2.1]; exact dat_of dL i
  obtain ⟨v, M1, M2, h1, h2, hI2⟩ := hSt t u T M (xs (i + 1)) hI
  refine r_aload_n (pc' := 862) hx (hd 519) rfl 1 rfl rfl ?_
  refine r_aload_n (pc' := 863) hx (hd 520) rfl 0 rfl rfl ?_
  refine r_iload_n (pc' := 864) hx (hd 521) rfl 3 rfl rfl ?_
  refine r_iconst (pc' := 865) (v := 1) hx (hd 522) (by decide) rfl ?_
  refine r_iadd (pc' := 866) hx (hd 523) rfl ?_
  refine z_sld (pc' := 867) (k := i + 1) C0 hwz hx (hd 524) (lj hL3 (v := 1) (j := 1) (by decide) (by omega)).1 (lj hL3 (v := 1) (j := 1) (by decide) (by omega)).2 rfl ?_
  refine z_callK (pc' := 870) (As := [.int (xs (i + 1))]) (rest := []) hx (hd 525) md_X11_ask mi_X11_ask ms_X11_ask mlL_131 (cX11_ask l _ hLy t ht (xs (i + 1)) M) h1 ht rfl (by decide) ⟨Nat.le_of_ble_eq_true rfl, Nat.le_of_ble_eq_true rfl⟩ rfl rfl (Nat.le_of_ble_eq_true rfl) rfl ?_
  show C _ w _ 4 870 [(0, .ref b), (1, .ref t), (2, .ref u), (3, .int (Int32.ofNat i))] [.int v] M1 (some ())
  refine r_aload_n (pc' := 871) hx (hd 526) rfl 2 rfl rfl ?_
  refine r_aload_n (pc' := 872) hx (hd 527) rfl 0 rfl rfl ?_
  refine r_iload_n (pc' := 873) hx (hd 528) rfl 3 rfl rfl ?_
  refine r_iconst (pc' := 874) (v := 1) hx (hd 529) (by decide) rfl ?_
  refine r_iadd (pc' := 875) hx (hd 530) rfl ?_
  refine z_sld (pc' := 876) (k := i + 1) C0 hwz hx (hd 531) (lj hL3 (v := 1) (j := 1) (by decide) (by omega)).1 (lj hL3 (v := 1) (j := 1) (by decide) (by omega)).2 rfl ?_
  refine z_callK (pc' := 879) (As := [.int (xs (i + 1))]) (rest := [.int v]) hx (hd 532) md_X12_ask mi_X12_ask ms_X12_ask mlL_134 (cX12_ask l _ hLy u hu (xs (i + 1)) M1) h2 hu rfl (by decide) ⟨Nat.le_of_ble_eq_true rfl, Nat.le_of_ble_eq_true rfl⟩ rfl rfl (Nat.le_of_ble_eq_true rfl) rfl ?_
  show C _ w _ 4 879 [(0, .ref b), (1, .ref t), (2, .ref u), (3, .int (Int32.ofNat i))] [.int v, .int v] M2 (some ())
  refine z_iceq (tgt := 1089) hx (hd 533) (by decide) rfl ?_
  refine z_iinc (pc' := 1092) (v := Int32.ofNat (i + 6)) (L' := [(3, .int (Int32.ofNat (i + 6))), (0, .ref b), (1, .ref t), (2, .ref u)]) (j := 3) hx (hd 693) rfl (l6 (by omega)) (by decide) rfl rfl ?_
  refine r_goto (tgt := 18) hx (hd 694) (by decide) ?_
  refine r_sub [1, 2, 3, 0] rfl ?_
  exact nx.le (by omega) (by omega) w M2 T hx hwz hLy ht hu hT hI2
set_option maxRecDepth 20000 in
theorem lp_few {p : Program} {l : Launch} {e : Env} {s : State} {m : MethodId} {below : List Frame} {meth : Method} {c : Code} {b L : Nat} {xs : Nat → Int32} {Inv : Nat → Nat → Nat → Mem → Prop} (hL3 : L ≤ 3072) (C0 : lw_At p s m meth c b L xs) (hSt : St_few Inv) (t u i K N : Nat) (hi : i + 6 ≤ L) (nx : LpN p l e s m below meth c b L Inv t u (i + 6) (K + 3) (N + 877)) : LpB p l e s m below meth c b L Inv t u i K N 884 := by
  intro w M T hx hwz hLy ht hu hT hI
  have hd : ∀ i, DAt (xc (lx p l e s m below meth c b)).code (tbL[i]?) := fun i => by show DAt c.code _; rw [C0.2.1]; exact dat_of dL i
  refine r_aload_n (pc' := 885) hx (hd 536) rfl 1 rfl rfl ?_
  refine r_aload_n (pc' := 886) hx (hd 537) rfl 0 rfl rfl ?_
  refine r_iload_n (pc' := 887) hx (hd 538) rfl 3 rfl rfl ?_
  refine r_iconst (pc' := 888) (v := 1) hx (hd 539) (by decide) rfl ?_
  refine r_iadd (pc' := 889) hx (hd 540) rfl ?_
  refine z_sld (pc' := 890) (k := i + 1) C0 hwz hx (hd 541) (lj hL3 (v := 1) (j := 1) (by decide) (by omega)).1 (lj hL3 (v := 1) (j := 1) (by decide) (by omega)).2 rfl ?_
  refine r_aload_n (pc' := 891) hx (hd 542) rfl 0 rfl rfl ?_
  refine r_iload_n (pc' := 892) hx (hd 543) rfl 3 rfl rfl ?_
  refine r_iconst (pc' := 893) (v := 2) hx (hd 544) (by decide) rfl ?_
  refine r_iadd (pc' := 894) hx (hd 545) rfl ?_
  refine z_sld (pc' := 895) (k := i + 2) C0 hwz hx (hd 546) (lj hL3 (v := 2) (j := 2) (by decide) (by omega)).1 (lj hL3 (v := 2) (j := 2) (by decide) (by omega)).2 rfl ?_
  refine z_callG (pc' := 898) (g := fun a => FX11_few t (xs (i + 1)) (xs (i + 2)) a M) (As := [.int (xs (i + 1)), .int (xs (i + 2))]) (rest := []) hx (hd 547) md_X11_few mi_X11_few ms_X11_few mlL_135 (fun a hb hz => cX11_few l _ a hb hz hLy t ht (xs (i + 1)) (xs (i + 2)) M) ht rfl (by decide) ⟨Nat.le_of_ble_eq_true rfl, Nat.le_of_ble_eq_true rfl⟩ rfl rfl (Nat.le_of_ble_eq_true rfl) ⟨by have := nx.1; show K + _ ≤ 600000; omega, by have := nx.2.1; show N + _ ≤ 7302250; omega⟩ rfl (fun a hb hz => ?_) (fun a r hb hz hr => ?_)
  · obtain ⟨v, G, M1, M2, h1, h2, hI2⟩ := hSt t u T M (xs (i + 1)) (xs (i + 2)) a hI (hT a hb)
    exact ⟨_, h1⟩
  obtain ⟨v, G, M1, M2, h1, h2, hI2⟩ := hSt t u T M (xs (i + 1)) (xs (i + 2)) a hI (hT a hb)
  cases hr.symm.trans h1
  have hLy2 : Lay (wg w a G) := z_layG hLy hb (few_G h1)
  have hT2 : ∀ a2, Bel (wg w a G) a2 → nT T a G ≤ a2 := z_topG hb hT
  have hx : Ok _ 4 _ _ _ (wg w a G) (xat (lx p l e s m below meth c b) (K + 1) (N + 20)) := ok_grow (x := (lx p l e s m below meth c b)) (w' := wg w a G) hx rfl rfl rfl rfl hLy2 (by have := nx.1; show K + _ ≤ 600000; omega) (by have := nx.2.1; show N + _ ≤ 7302250; omega)
  have ht : Wat (wg w a G) t 11 0 := wat_old hb ht
  have hu : Wat (wg w a G) u 12 0 := wat_old hb hu
  have hwz : wz (wg w a G) = s.heap.size := hwz
  show C _ (wg w a G) _ 4 898 [(0, .ref b), (1, .ref t), (2, .ref u), (3, .int (Int32.ofNat i))] [.long v] M1 (some ())
  refine r_aload_n (pc' := 899) hx (hd 548) rfl 2 rfl rfl ?_
  refine r_aload_n (pc' := 900) hx (hd 549) rfl 0 rfl rfl ?_
  refine r_iload_n (pc' := 901) hx (hd 550) rfl 3 rfl rfl ?_
  refine r_iconst (pc' := 902) (v := 1) hx (hd 551) (by decide) rfl ?_
  refine r_iadd (pc' := 903) hx (hd 552) rfl ?_
  refine z_sld (pc' := 904) (k := i + 1) C0 hwz hx (hd 553) (lj hL3 (v := 1) (j := 1) (by decide) (by omega)).1 (lj hL3 (v := 1) (j := 1) (by decide) (by omega)).2 rfl ?_
  refine r_aload_n (pc' := 905) hx (hd 554) rfl 0 rfl rfl ?_
  refine r_iload_n (pc' := 906) hx (hd 555) rfl 3 rfl rfl ?_
  refine r_iconst (pc' := 907) (v := 2) hx (hd 556) (by decide) rfl ?_
  refine r_iadd (pc' := 908) hx (hd 557) rfl ?_
  refine z_sld (pc' := 909) (k := i + 2) C0 hwz hx (hd 558) (lj hL3 (v := 2) (j := 2) (by decide) (by omega)).1 (lj hL3 (v := 2) (j := 2) (by decide) (by omega)).2 rfl ?_
  refine z_callK (pc' := 912) (As := [.int (xs (i + 1)), .int (xs (i + 2))]) (rest := [.long v]) hx (hd 559) md_X12_few mi_X12_few ms_X12_few mlL_138 (cX12_few l _ hLy2 u hu (xs (i + 1)) (xs (i + 2)) M1) h2 hu rfl (by decide) ⟨Nat.le_of_ble_eq_true rfl, Nat.le_of_ble_eq_true rfl⟩ rfl rfl (Nat.le_of_ble_eq_true rfl) rfl ?_
  show C _ (wg w a G) _ 4 912 [(0, .ref b), (1, .ref t), (2, .ref u), (3, .int (Int32.ofNat i))] [.long v, .long v] M2 (some ())
  refine z_lceq (tgt := 1089) hx (hd 560) (hd 561) (by decide) rfl ?_
  refine z_iinc (pc' := 1092) (v := Int32.ofNat (i + 6)) (L' := [(3, .int (Int32.ofNat (i + 6))), (0, .ref b), (1, .ref t), (2, .ref u)]) (j := 3) hx (hd 693) rfl (l6 (by omega)) (by decide) rfl rfl ?_
  refine r_goto (tgt := 18) hx (hd 694) (by decide) ?_
  refine r_sub [1, 2, 3, 0] rfl ?_
  exact nx.le (by omega) (by omega) (wg w a G) M2 (nT T a G) hx hwz hLy2 ht hu hT2 hI2
set_option maxRecDepth 20000 in
theorem lp_compare {p : Program} {l : Launch} {e : Env} {s : State} {m : MethodId} {below : List Frame} {meth : Method} {c : Code} {b L : Nat} {xs : Nat → Int32} {Inv : Nat → Nat → Nat → Mem → Prop} (hL3 : L ≤ 3072) (C0 : lw_At p s m meth c b L xs) (hSt : St_compare Inv) (t u i K N : Nat) (hi : i + 6 ≤ L) (nx : LpN p l e s m below meth c b L Inv t u (i + 6) (K + 3) (N + 877)) : LpB p l e s m below meth c b L Inv t u i K N 918 := by
  intro w M T hx hwz hLy ht hu hT hI
  have hd : ∀ i, DAt (xc (lx p l e s m below meth c b)).code (tbL[i]?) := fun i => by show DAt c.code _; rw [C0.2.1]; exact dat_of dL i
  obtain ⟨v, M1, M2, h1, h2, hI2⟩ := hSt t u T M (xs (i + 1)) (xs (i + 2)) hI
  refine r_aload_n (pc' := 919) hx (hd 564) rfl 1 rfl rfl ?_
  refine r_aload_n (pc' := 920) hx (hd 565) rfl 0 rfl rfl ?_
  refine r_iload_n (pc' := 921) hx (hd 566) rfl 3 rfl rfl ?_
  refine r_iconst (pc' := 922) (v := 1) hx (hd 567) (by decide) rfl ?_
  refine r_iadd (pc' := 923) hx (hd 568) rfl ?_
  refine z_sld (pc' := 924) (k := i + 1) C0 hwz hx (hd 569) (lj hL3 (v := 1) (j := 1) (by decide) (by omega)).1 (lj hL3 (v := 1) (j := 1) (by decide) (by omega)).2 rfl ?_
  refine r_aload_n (pc' := 925) hx (hd 570) rfl 0 rfl rfl ?_
  refine r_iload_n (pc' := 926) hx (hd 571) rfl 3 rfl rfl ?_
  refine r_iconst (pc' := 927) (v := 2) hx (hd 572) (by decide) rfl ?_
  refine r_iadd (pc' := 928) hx (hd 573) rfl ?_
  refine z_sld (pc' := 929) (k := i + 2) C0 hwz hx (hd 574) (lj hL3 (v := 2) (j := 2) (by decide) (by omega)).1 (lj hL3 (v := 2) (j := 2) (by decide) (by omega)).2 rfl ?_
  refine z_callK (pc' := 932) (As := [.int (xs (i + 1)), .int (xs (i + 2))]) (rest := []) hx (hd 575) md_X11_compare mi_X11_compare ms_X11_compare mlL_139 (cX11_compare l _ hLy t ht (xs (i + 1)) (xs (i + 2)) M) h1 ht rfl (by decide) ⟨Nat.le_of_ble_eq_true rfl, Nat.le_of_ble_eq_true rfl⟩ rfl rfl (Nat.le_of_ble_eq_true rfl) rfl ?_
  show C _ w _ 4 932 [(0, .ref b), (1, .ref t), (2, .ref u), (3, .int (Int32.ofNat i))] [.int v] M1 (some ())
  refine r_aload_n (pc' := 933) hx (hd 576) rfl 2 rfl rfl ?_
  refine r_aload_n (pc' := 934) hx (hd 577) rfl 0 rfl rfl ?_
  refine r_iload_n (pc' := 935) hx (hd 578) rfl 3 rfl rfl ?_
  refine r_iconst (pc' := 936) (v := 1) hx (hd 579) (by decide) rfl ?_
  refine r_iadd (pc' := 937) hx (hd 580) rfl ?_
  refine z_sld (pc' := 938) (k := i + 1) C0 hwz hx (hd 581) (lj hL3 (v := 1) (j := 1) (by decide) (by omega)).1 (lj hL3 (v := 1) (j := 1) (by decide) (by omega)).2 rfl ?_
  refine r_aload_n (pc' := 939) hx (hd 582) rfl 0 rfl rfl ?_
  refine r_iload_n (pc' := 940) hx (hd 583) rfl 3 rfl rfl ?_
  refine r_iconst (pc' := 941) (v := 2) hx (hd 584) (by decide) rfl ?_
  refine r_iadd (pc' := 942) hx (hd 585) rfl ?_
  refine z_sld (pc' := 943) (k := i + 2) C0 hwz hx (hd 586) (lj hL3 (v := 2) (j := 2) (by decide) (by omega)).1 (lj hL3 (v := 2) (j := 2) (by decide) (by omega)).2 rfl ?_
  refine z_callK (pc' := 946) (As := [.int (xs (i + 1)), .int (xs (i + 2))]) (rest := [.int v]) hx (hd 587) md_X12_compare mi_X12_compare ms_X12_compare mlL_142 (cX12_compare l _ hLy u hu (xs (i + 1)) (xs (i + 2)) M1) h2 hu rfl (by decide) ⟨Nat.le_of_ble_eq_true rfl, Nat.le_of_ble_eq_true rfl⟩ rfl rfl (Nat.le_of_ble_eq_true rfl) rfl ?_
  show C _ w _ 4 946 [(0, .ref b), (1, .ref t), (2, .ref u), (3, .int (Int32.ofNat i))] [.int v, .int v] M2 (some ())
  refine z_iceq (tgt := 1089) hx (hd 588) (by decide) rfl ?_
  refine z_iinc (pc' := 1092) (v := Int32.ofNat (i + 6)) (L' := [(3, .int (Int32.ofNat (i + 6))), (0, .ref b), (1, .ref t), (2, .ref u)]) (j := 3) hx (hd 693) rfl (l6 (by omega)) (by decide) rfl rfl ?_
  refine r_goto (tgt := 18) hx (hd 694) (by decide) ?_
  refine r_sub [1, 2, 3, 0] rfl ?_
  exact nx.le (by omega) (by omega) w M2 T hx hwz hLy ht hu hT hI2
set_option maxRecDepth 20000 in
theorem lp_rubbers {p : Program} {l : Launch} {e : Env} {s : State} {m : MethodId} {below : List Frame} {meth : Method} {c : Code} {b L : Nat} {xs : Nat → Int32} {Inv : Nat → Nat → Nat → Mem → Prop} (hL3 : L ≤ 3072) (C0 : lw_At p s m meth c b L xs) (hSt : St_rubbers Inv) (t u i K N : Nat) (hi : i + 6 ≤ L) (nx : LpN p l e s m below meth c b L Inv t u (i + 6) (K + 3) (N + 877)) : LpB p l e s m below meth c b L Inv t u i K N 951 := by
  intro w M T hx hwz hLy ht hu hT hI
  have hd : ∀ i, DAt (xc (lx p l e s m below meth c b)).code (tbL[i]?) := fun i => by show DAt c.code _; rw [C0.2.1]; exact dat_of dL i
  obtain ⟨v, M1, M2, h1, h2, hI2⟩ := hSt t u T M (xs (i + 1)) (xs (i + 2)) hI
  refine r_aload_n (pc' := 952) hx (hd 591) rfl 1 rfl rfl ?_
  refine r_aload_n (pc' := 953) hx (hd 592) rfl 0 rfl rfl ?_
  refine r_iload_n (pc' := 954) hx (hd 593) rfl 3 rfl rfl ?_
  refine r_iconst (pc' := 955) (v := 1) hx (hd 594) (by decide) rfl ?_
  refine r_iadd (pc' := 956) hx (hd 595) rfl ?_
  refine z_sld (pc' := 957) (k := i + 1) C0 hwz hx (hd 596) (lj hL3 (v := 1) (j := 1) (by decide) (by omega)).1 (lj hL3 (v := 1) (j := 1) (by decide) (by omega)).2 rfl ?_
  refine r_aload_n (pc' := 958) hx (hd 597) rfl 0 rfl rfl ?_
  refine r_iload_n (pc' := 959) hx (hd 598) rfl 3 rfl rfl ?_
  refine r_iconst (pc' := 960) (v := 2) hx (hd 599) (by decide) rfl ?_
  refine r_iadd (pc' := 961) hx (hd 600) rfl ?_
  refine z_sld (pc' := 962) (k := i + 2) C0 hwz hx (hd 601) (lj hL3 (v := 2) (j := 2) (by decide) (by omega)).1 (lj hL3 (v := 2) (j := 2) (by decide) (by omega)).2 rfl ?_
  refine z_callK (pc' := 965) (As := [.int (xs (i + 1)), .int (xs (i + 2))]) (rest := []) hx (hd 602) md_X11_rubbers mi_X11_rubbers ms_X11_rubbers mlL_143 (cX11_rubbers l _ hLy t ht (xs (i + 1)) (xs (i + 2)) M) h1 ht rfl (by decide) ⟨Nat.le_of_ble_eq_true rfl, Nat.le_of_ble_eq_true rfl⟩ rfl rfl (Nat.le_of_ble_eq_true rfl) rfl ?_
  show C _ w _ 4 965 [(0, .ref b), (1, .ref t), (2, .ref u), (3, .int (Int32.ofNat i))] [.int v] M1 (some ())
  refine r_aload_n (pc' := 966) hx (hd 603) rfl 2 rfl rfl ?_
  refine r_aload_n (pc' := 967) hx (hd 604) rfl 0 rfl rfl ?_
  refine r_iload_n (pc' := 968) hx (hd 605) rfl 3 rfl rfl ?_
  refine r_iconst (pc' := 969) (v := 1) hx (hd 606) (by decide) rfl ?_
  refine r_iadd (pc' := 970) hx (hd 607) rfl ?_
  refine z_sld (pc' := 971) (k := i + 1) C0 hwz hx (hd 608) (lj hL3 (v := 1) (j := 1) (by decide) (by omega)).1 (lj hL3 (v := 1) (j := 1) (by decide) (by omega)).2 rfl ?_
  refine r_aload_n (pc' := 972) hx (hd 609) rfl 0 rfl rfl ?_
  refine r_iload_n (pc' := 973) hx (hd 610) rfl 3 rfl rfl ?_
  refine r_iconst (pc' := 974) (v := 2) hx (hd 611) (by decide) rfl ?_
  refine r_iadd (pc' := 975) hx (hd 612) rfl ?_
  refine z_sld (pc' := 976) (k := i + 2) C0 hwz hx (hd 613) (lj hL3 (v := 2) (j := 2) (by decide) (by omega)).1 (lj hL3 (v := 2) (j := 2) (by decide) (by omega)).2 rfl ?_
  refine z_callK (pc' := 979) (As := [.int (xs (i + 1)), .int (xs (i + 2))]) (rest := [.int v]) hx (hd 614) md_X12_rubbers mi_X12_rubbers ms_X12_rubbers mlL_146 (cX12_rubbers l _ hLy u hu (xs (i + 1)) (xs (i + 2)) M1) h2 hu rfl (by decide) ⟨Nat.le_of_ble_eq_true rfl, Nat.le_of_ble_eq_true rfl⟩ rfl rfl (Nat.le_of_ble_eq_true rfl) rfl ?_
  show C _ w _ 4 979 [(0, .ref b), (1, .ref t), (2, .ref u), (3, .int (Int32.ofNat i))] [.int v, .int v] M2 (some ())
  refine z_iceq (tgt := 1089) hx (hd 615) (by decide) rfl ?_
  refine z_iinc (pc' := 1092) (v := Int32.ofNat (i + 6)) (L' := [(3, .int (Int32.ofNat (i + 6))), (0, .ref b), (1, .ref t), (2, .ref u)]) (j := 3) hx (hd 693) rfl (l6 (by omega)) (by decide) rfl rfl ?_
  refine r_goto (tgt := 18) hx (hd 694) (by decide) ?_
  refine r_sub [1, 2, 3, 0] rfl ?_
  exact nx.le (by omega) (by omega) w M2 T hx hwz hLy ht hu hT hI2
set_option maxRecDepth 20000 in
theorem lp_drawn {p : Program} {l : Launch} {e : Env} {s : State} {m : MethodId} {below : List Frame} {meth : Method} {c : Code} {b L : Nat} {xs : Nat → Int32} {Inv : Nat → Nat → Nat → Mem → Prop} (hL3 : L ≤ 3072) (C0 : lw_At p s m meth c b L xs) (hSt : St_drawn Inv) (t u i K N : Nat) (hi : i + 6 ≤ L) (nx : LpN p l e s m below meth c b L Inv t u (i + 6) (K + 3) (N + 877)) : LpB p l e s m below meth c b L Inv t u i K N 984 := by
  intro w M T hx hwz hLy ht hu hT hI
  have hd : ∀ i, DAt (xc (lx p l e s m below meth c b)).code (tbL[i]?) := fun i => by show DAt c.code _; rw [C0.2.1]; exact dat_of dL i
  obtain ⟨v, M2, h1, h2, hI2⟩ := hSt t u T M (xs (i + 1)) hI
  refine r_aload_n (pc' := 985) hx (hd 618) rfl 1 rfl rfl ?_
  refine r_aload_n (pc' := 986) hx (hd 619) rfl 0 rfl rfl ?_
  refine r_iload_n (pc' := 987) hx (hd 620) rfl 3 rfl rfl ?_
  refine r_iconst (pc' := 988) (v := 1) hx (hd 621) (by decide) rfl ?_
  refine r_iadd (pc' := 989) hx (hd 622) rfl ?_
  refine z_sld (pc' := 990) (k := i + 1) C0 hwz hx (hd 623) (lj hL3 (v := 1) (j := 1) (by decide) (by omega)).1 (lj hL3 (v := 1) (j := 1) (by decide) (by omega)).2 rfl ?_
  refine z_callK (pc' := 993) (As := [.int (xs (i + 1))]) (rest := []) hx (hd 624) md_X11_drawn mi_X11_drawn ms_X11_drawn mlL_147 (cX11_drawn l _ hLy t ht (xs (i + 1)) M) h1 ht rfl (by decide) ⟨Nat.le_of_ble_eq_true rfl, Nat.le_of_ble_eq_true rfl⟩ rfl rfl (Nat.le_of_ble_eq_true rfl) rfl ?_
  show C _ w _ 4 993 [(0, .ref b), (1, .ref t), (2, .ref u), (3, .int (Int32.ofNat i))] [.int v] M (some ())
  refine r_aload_n (pc' := 994) hx (hd 625) rfl 2 rfl rfl ?_
  refine r_aload_n (pc' := 995) hx (hd 626) rfl 0 rfl rfl ?_
  refine r_iload_n (pc' := 996) hx (hd 627) rfl 3 rfl rfl ?_
  refine r_iconst (pc' := 997) (v := 1) hx (hd 628) (by decide) rfl ?_
  refine r_iadd (pc' := 998) hx (hd 629) rfl ?_
  refine z_sld (pc' := 999) (k := i + 1) C0 hwz hx (hd 630) (lj hL3 (v := 1) (j := 1) (by decide) (by omega)).1 (lj hL3 (v := 1) (j := 1) (by decide) (by omega)).2 rfl ?_
  refine z_callK (pc' := 1002) (As := [.int (xs (i + 1))]) (rest := [.int v]) hx (hd 631) md_X12_drawn mi_X12_drawn ms_X12_drawn mlL_150 (cX12_drawn l _ hLy u hu (xs (i + 1)) M) h2 hu rfl (by decide) ⟨Nat.le_of_ble_eq_true rfl, Nat.le_of_ble_eq_true rfl⟩ rfl rfl (Nat.le_of_ble_eq_true rfl) rfl ?_
  show C _ w _ 4 1002 [(0, .ref b), (1, .ref t), (2, .ref u), (3, .int (Int32.ofNat i))] [.int v, .int v] M2 (some ())
  refine z_iceq (tgt := 1089) hx (hd 632) (by decide) rfl ?_
  refine z_iinc (pc' := 1092) (v := Int32.ofNat (i + 6)) (L' := [(3, .int (Int32.ofNat (i + 6))), (0, .ref b), (1, .ref t), (2, .ref u)]) (j := 3) hx (hd 693) rfl (l6 (by omega)) (by decide) rfl rfl ?_
  refine r_goto (tgt := 18) hx (hd 694) (by decide) ?_
  refine r_sub [1, 2, 3, 0] rfl ?_
  exact nx.le (by omega) (by omega) w M2 T hx hwz hLy ht hu hT hI2
set_option maxRecDepth 20000 in
theorem lp_image {p : Program} {l : Launch} {e : Env} {s : State} {m : MethodId} {below : List Frame} {meth : Method} {c : Code} {b L : Nat} {xs : Nat → Int32} {Inv : Nat → Nat → Nat → Mem → Prop} (hL3 : L ≤ 3072) (C0 : lw_At p s m meth c b L xs) (hSt : St_image Inv) (t u i K N : Nat) (hi : i + 6 ≤ L) (nx : LpN p l e s m below meth c b L Inv t u (i + 6) (K + 3) (N + 877)) : LpB p l e s m below meth c b L Inv t u i K N 1007 := by
  intro w M T hx hwz hLy ht hu hT hI
  have hd : ∀ i, DAt (xc (lx p l e s m below meth c b)).code (tbL[i]?) := fun i => by show DAt c.code _; rw [C0.2.1]; exact dat_of dL i
  obtain ⟨v, M1, M2, h1, h2, hI2⟩ := hSt t u T M (xs (i + 1)) hI
  refine r_aload_n (pc' := 1008) hx (hd 635) rfl 1 rfl rfl ?_
  refine r_aload_n (pc' := 1009) hx (hd 636) rfl 0 rfl rfl ?_
  refine r_iload_n (pc' := 1010) hx (hd 637) rfl 3 rfl rfl ?_
  refine r_iconst (pc' := 1011) (v := 1) hx (hd 638) (by decide) rfl ?_
  refine r_iadd (pc' := 1012) hx (hd 639) rfl ?_
  refine z_sld (pc' := 1013) (k := i + 1) C0 hwz hx (hd 640) (lj hL3 (v := 1) (j := 1) (by decide) (by omega)).1 (lj hL3 (v := 1) (j := 1) (by decide) (by omega)).2 rfl ?_
  refine z_callK (pc' := 1016) (As := [.int (xs (i + 1))]) (rest := []) hx (hd 641) md_X11_image mi_X11_image ms_X11_image mlL_151 (cX11_image l _ hLy t ht (xs (i + 1)) M) h1 ht rfl (by decide) ⟨Nat.le_of_ble_eq_true rfl, Nat.le_of_ble_eq_true rfl⟩ rfl rfl (Nat.le_of_ble_eq_true rfl) rfl ?_
  show C _ w _ 4 1016 [(0, .ref b), (1, .ref t), (2, .ref u), (3, .int (Int32.ofNat i))] [.int v] M1 (some ())
  refine r_aload_n (pc' := 1017) hx (hd 642) rfl 2 rfl rfl ?_
  refine r_aload_n (pc' := 1018) hx (hd 643) rfl 0 rfl rfl ?_
  refine r_iload_n (pc' := 1019) hx (hd 644) rfl 3 rfl rfl ?_
  refine r_iconst (pc' := 1020) (v := 1) hx (hd 645) (by decide) rfl ?_
  refine r_iadd (pc' := 1021) hx (hd 646) rfl ?_
  refine z_sld (pc' := 1022) (k := i + 1) C0 hwz hx (hd 647) (lj hL3 (v := 1) (j := 1) (by decide) (by omega)).1 (lj hL3 (v := 1) (j := 1) (by decide) (by omega)).2 rfl ?_
  refine z_callK (pc' := 1025) (As := [.int (xs (i + 1))]) (rest := [.int v]) hx (hd 648) md_X12_image mi_X12_image ms_X12_image mlL_154 (cX12_image l _ hLy u hu (xs (i + 1)) M1) h2 hu rfl (by decide) ⟨Nat.le_of_ble_eq_true rfl, Nat.le_of_ble_eq_true rfl⟩ rfl rfl (Nat.le_of_ble_eq_true rfl) rfl ?_
  show C _ w _ 4 1025 [(0, .ref b), (1, .ref t), (2, .ref u), (3, .int (Int32.ofNat i))] [.int v, .int v] M2 (some ())
  refine z_iceq (tgt := 1089) hx (hd 649) (by decide) rfl ?_
  refine z_iinc (pc' := 1092) (v := Int32.ofNat (i + 6)) (L' := [(3, .int (Int32.ofNat (i + 6))), (0, .ref b), (1, .ref t), (2, .ref u)]) (j := 3) hx (hd 693) rfl (l6 (by omega)) (by decide) rfl rfl ?_
  refine r_goto (tgt := 18) hx (hd 694) (by decide) ?_
  refine r_sub [1, 2, 3, 0] rfl ?_
  exact nx.le (by omega) (by omega) w M2 T hx hwz hLy ht hu hT hI2
set_option maxRecDepth 20000 in
theorem lp_back {p : Program} {l : Launch} {e : Env} {s : State} {m : MethodId} {below : List Frame} {meth : Method} {c : Code} {b L : Nat} {xs : Nat → Int32} {Inv : Nat → Nat → Nat → Mem → Prop} (hL3 : L ≤ 3072) (C0 : lw_At p s m meth c b L xs) (hSt : St_back Inv) (t u i K N : Nat) (hi : i + 6 ≤ L) (nx : LpN p l e s m below meth c b L Inv t u (i + 6) (K + 3) (N + 877)) : LpB p l e s m below meth c b L Inv t u i K N 1030 := by
  intro w M T hx hwz hLy ht hu hT hI
  have hd : ∀ i, DAt (xc (lx p l e s m below meth c b)).code (tbL[i]?) := fun i => by show DAt c.code _; rw [C0.2.1]; exact dat_of dL i
  obtain ⟨v, M1, M2, h1, h2, hI2⟩ := hSt t u T M (xs (i + 1)) hI
  refine r_aload_n (pc' := 1031) hx (hd 652) rfl 1 rfl rfl ?_
  refine r_aload_n (pc' := 1032) hx (hd 653) rfl 0 rfl rfl ?_
  refine r_iload_n (pc' := 1033) hx (hd 654) rfl 3 rfl rfl ?_
  refine r_iconst (pc' := 1034) (v := 1) hx (hd 655) (by decide) rfl ?_
  refine r_iadd (pc' := 1035) hx (hd 656) rfl ?_
  refine z_sld (pc' := 1036) (k := i + 1) C0 hwz hx (hd 657) (lj hL3 (v := 1) (j := 1) (by decide) (by omega)).1 (lj hL3 (v := 1) (j := 1) (by decide) (by omega)).2 rfl ?_
  refine z_callK (pc' := 1039) (As := [.int (xs (i + 1))]) (rest := []) hx (hd 658) md_X11_back mi_X11_back ms_X11_back mlL_155 (cX11_back l _ hLy t ht (xs (i + 1)) M) h1 ht rfl (by decide) ⟨Nat.le_of_ble_eq_true rfl, Nat.le_of_ble_eq_true rfl⟩ rfl rfl (Nat.le_of_ble_eq_true rfl) rfl ?_
  show C _ w _ 4 1039 [(0, .ref b), (1, .ref t), (2, .ref u), (3, .int (Int32.ofNat i))] [.int v] M1 (some ())
  refine r_aload_n (pc' := 1040) hx (hd 659) rfl 2 rfl rfl ?_
  refine r_aload_n (pc' := 1041) hx (hd 660) rfl 0 rfl rfl ?_
  refine r_iload_n (pc' := 1042) hx (hd 661) rfl 3 rfl rfl ?_
  refine r_iconst (pc' := 1043) (v := 1) hx (hd 662) (by decide) rfl ?_
  refine r_iadd (pc' := 1044) hx (hd 663) rfl ?_
  refine z_sld (pc' := 1045) (k := i + 1) C0 hwz hx (hd 664) (lj hL3 (v := 1) (j := 1) (by decide) (by omega)).1 (lj hL3 (v := 1) (j := 1) (by decide) (by omega)).2 rfl ?_
  refine z_callK (pc' := 1048) (As := [.int (xs (i + 1))]) (rest := [.int v]) hx (hd 665) md_X12_back mi_X12_back ms_X12_back mlL_158 (cX12_back l _ hLy u hu (xs (i + 1)) M1) h2 hu rfl (by decide) ⟨Nat.le_of_ble_eq_true rfl, Nat.le_of_ble_eq_true rfl⟩ rfl rfl (Nat.le_of_ble_eq_true rfl) rfl ?_
  show C _ w _ 4 1048 [(0, .ref b), (1, .ref t), (2, .ref u), (3, .int (Int32.ofNat i))] [.int v, .int v] M2 (some ())
  refine z_iceq (tgt := 1089) hx (hd 666) (by decide) rfl ?_
  refine z_iinc (pc' := 1092) (v := Int32.ofNat (i + 6)) (L' := [(3, .int (Int32.ofNat (i + 6))), (0, .ref b), (1, .ref t), (2, .ref u)]) (j := 3) hx (hd 693) rfl (l6 (by omega)) (by decide) rfl rfl ?_
  refine r_goto (tgt := 18) hx (hd 694) (by decide) ?_
  refine r_sub [1, 2, 3, 0] rfl ?_
  exact nx.le (by omega) (by omega) w M2 T hx hwz hLy ht hu hT hI2
set_option maxRecDepth 20000 in
theorem lp_count {p : Program} {l : Launch} {e : Env} {s : State} {m : MethodId} {below : List Frame} {meth : Method} {c : Code} {b L : Nat} {xs : Nat → Int32} {Inv : Nat → Nat → Nat → Mem → Prop} (hL3 : L ≤ 3072) (C0 : lw_At p s m meth c b L xs) (hSt : St_count Inv) (t u i K N : Nat) (hi : i + 6 ≤ L) (nx : LpN p l e s m below meth c b L Inv t u (i + 6) (K + 3) (N + 877)) : LpB p l e s m below meth c b L Inv t u i K N 1053 := by
  intro w M T hx hwz hLy ht hu hT hI
  have hd : ∀ i, DAt (xc (lx p l e s m below meth c b)).code (tbL[i]?) := fun i => by show DAt c.code _; rw [C0.2.1]; exact dat_of dL i
  obtain ⟨v, M2, h1, h2, hI2⟩ := hSt t u T M (xs (i + 1)) hI
  refine r_aload_n (pc' := 1054) hx (hd 669) rfl 1 rfl rfl ?_
  refine r_aload_n (pc' := 1055) hx (hd 670) rfl 0 rfl rfl ?_
  refine r_iload_n (pc' := 1056) hx (hd 671) rfl 3 rfl rfl ?_
  refine r_iconst (pc' := 1057) (v := 1) hx (hd 672) (by decide) rfl ?_
  refine r_iadd (pc' := 1058) hx (hd 673) rfl ?_
  refine z_sld (pc' := 1059) (k := i + 1) C0 hwz hx (hd 674) (lj hL3 (v := 1) (j := 1) (by decide) (by omega)).1 (lj hL3 (v := 1) (j := 1) (by decide) (by omega)).2 rfl ?_
  refine z_callK (pc' := 1062) (As := [.int (xs (i + 1))]) (rest := []) hx (hd 675) md_X11_count mi_X11_count ms_X11_count mlL_159 (cX11_count l _ hLy t ht (xs (i + 1)) M) h1 ht rfl (by decide) ⟨Nat.le_of_ble_eq_true rfl, Nat.le_of_ble_eq_true rfl⟩ rfl rfl (Nat.le_of_ble_eq_true rfl) rfl ?_
  show C _ w _ 4 1062 [(0, .ref b), (1, .ref t), (2, .ref u), (3, .int (Int32.ofNat i))] [.int v] M (some ())
  refine r_aload_n (pc' := 1063) hx (hd 676) rfl 2 rfl rfl ?_
  refine r_aload_n (pc' := 1064) hx (hd 677) rfl 0 rfl rfl ?_
  refine r_iload_n (pc' := 1065) hx (hd 678) rfl 3 rfl rfl ?_
  refine r_iconst (pc' := 1066) (v := 1) hx (hd 679) (by decide) rfl ?_
  refine r_iadd (pc' := 1067) hx (hd 680) rfl ?_
  refine z_sld (pc' := 1068) (k := i + 1) C0 hwz hx (hd 681) (lj hL3 (v := 1) (j := 1) (by decide) (by omega)).1 (lj hL3 (v := 1) (j := 1) (by decide) (by omega)).2 rfl ?_
  refine z_callK (pc' := 1071) (As := [.int (xs (i + 1))]) (rest := [.int v]) hx (hd 682) md_X12_count mi_X12_count ms_X12_count mlL_162 (cX12_count l _ hLy u hu (xs (i + 1)) M) h2 hu rfl (by decide) ⟨Nat.le_of_ble_eq_true rfl, Nat.le_of_ble_eq_true rfl⟩ rfl rfl (Nat.le_of_ble_eq_true rfl) rfl ?_
  show C _ w _ 4 1071 [(0, .ref b), (1, .ref t), (2, .ref u), (3, .int (Int32.ofNat i))] [.int v, .int v] M2 (some ())
  refine z_iceq (tgt := 1089) hx (hd 683) (by decide) rfl ?_
  refine z_iinc (pc' := 1092) (v := Int32.ofNat (i + 6)) (L' := [(3, .int (Int32.ofNat (i + 6))), (0, .ref b), (1, .ref t), (2, .ref u)]) (j := 3) hx (hd 693) rfl (l6 (by omega)) (by decide) rfl rfl ?_
  refine r_goto (tgt := 18) hx (hd 694) (by decide) ?_
  refine r_sub [1, 2, 3, 0] rfl ?_
  exact nx.le (by omega) (by omega) w M2 T hx hwz hLy ht hu hT hI2
set_option maxRecDepth 20000 in
theorem lp_status {p : Program} {l : Launch} {e : Env} {s : State} {m : MethodId} {below : List Frame} {meth : Method} {c : Code} {b L : Nat} {xs : Nat → Int32} {Inv : Nat → Nat → Nat → Mem → Prop} (hL3 : L ≤ 3072) (C0 : lw_At p s m meth c b L xs) (hSt : St_status Inv) (t u i K N : Nat) (hi : i + 6 ≤ L) (nx : LpN p l e s m below meth c b L Inv t u (i + 6) (K + 3) (N + 877)) : LpB p l e s m below meth c b L Inv t u i K N 1076 := by
  intro w M T hx hwz hLy ht hu hT hI
  have hd : ∀ i, DAt (xc (lx p l e s m below meth c b)).code (tbL[i]?) := fun i => by show DAt c.code _; rw [C0.2.1]; exact dat_of dL i
  obtain ⟨v, M2, h1, h2, hI2⟩ := hSt t u T M  hI
  refine r_aload_n (pc' := 1077) hx (hd 686) rfl 1 rfl rfl ?_
  refine z_callK (pc' := 1080) (As := []) (rest := []) hx (hd 687) md_X11_status mi_X11_status ms_X11_status mlL_163 (cX11_status l _ hLy t ht  M) h1 ht rfl (by decide) ⟨Nat.le_of_ble_eq_true rfl, Nat.le_of_ble_eq_true rfl⟩ rfl rfl (Nat.le_of_ble_eq_true rfl) rfl ?_
  show C _ w _ 4 1080 [(0, .ref b), (1, .ref t), (2, .ref u), (3, .int (Int32.ofNat i))] [.int v] M (some ())
  refine r_aload_n (pc' := 1081) hx (hd 688) rfl 2 rfl rfl ?_
  refine z_callK (pc' := 1084) (As := []) (rest := [.int v]) hx (hd 689) md_X12_status mi_X12_status ms_X12_status mlL_166 (cX12_status l _ hLy u hu  M) h2 hu rfl (by decide) ⟨Nat.le_of_ble_eq_true rfl, Nat.le_of_ble_eq_true rfl⟩ rfl rfl (Nat.le_of_ble_eq_true rfl) rfl ?_
  show C _ w _ 4 1084 [(0, .ref b), (1, .ref t), (2, .ref u), (3, .int (Int32.ofNat i))] [.int v, .int v] M2 (some ())
  refine z_iceq (tgt := 1089) hx (hd 690) (by decide) rfl ?_
  refine z_iinc (pc' := 1092) (v := Int32.ofNat (i + 6)) (L' := [(3, .int (Int32.ofNat (i + 6))), (0, .ref b), (1, .ref t), (2, .ref u)]) (j := 3) hx (hd 693) rfl (l6 (by omega)) (by decide) rfl rfl ?_
  refine r_goto (tgt := 18) hx (hd 694) (by decide) ?_
  refine r_sub [1, 2, 3, 0] rfl ?_
  exact nx.le (by omega) (by omega) w M2 T hx hwz hLy ht hu hT hI2
set_option maxRecDepth 20000 in
theorem lp_all {p : Program} {l : Launch} {e : Env} {s : State} {m : MethodId} {below : List Frame} {meth : Method} {c : Code} {b L : Nat} {xs : Nat → Int32} {Inv : Nat → Nat → Nat → Mem → Prop} (hL3 : L ≤ 3072) (C0 : lw_At p s m meth c b L xs) (hSt : StAll Inv) (t u i K N : Nat) (hi : i + 6 ≤ L) (nx : LpN p l e s m below meth c b L Inv t u (i + 6) (K + 3) (N + 877)) : LpB p l e s m below meth c b L Inv t u i K N 27 := by
  intro w M T hx hwz hLy ht hu hT hI
  obtain ⟨s0, s1, s2, s3, s4, s5, s6, s7, s8, s9, s10, s11, s12, s13, s14, s15, s16, s17, s18, s19, s20, s21, s22, s23, s24, s25, s26, s27, s28, s29, s30, s31, s32, s33, s34, s35, s36⟩ := hSt
  have hd : ∀ i, DAt (xc (lx p l e s m below meth c b)).code (tbL[i]?) := fun i => by show DAt c.code _; rw [C0.2.1]; exact dat_of dL i
  refine r_aload_n (pc' := 28) hx (hd 16) rfl 0 rfl rfl ?_
  refine r_iload_n (pc' := 29) hx (hd 17) rfl 3 rfl rfl ?_
  refine z_sld (pc' := 30) (k := i) C0 hwz hx (hd 18) (l0 hL3 (by omega)).1 (l0 hL3 (by omega)).2 rfl ?_
  refine r_bipush (pc' := 32) (v := 63) hx (hd 19) (by decide) rfl ?_
  refine r_iand (pc' := 33) hx (hd 20) rfl ?_
  have key : C (xat (lx p l e s m below meth c b) K N) w (fun _ : Unit => lw_Z below #[Value.ref b] s) 4 33 [(0, .ref b), (1, .ref t), (2, .ref u), (3, .int (Int32.ofNat i))] [.int (xs i &&& 63)] M (sw (xs i &&& 63).toInt 0 [some (), some (), some (), some (), some (), some (), some (), some (), some (), some (), some (), some (), some (), some (), some (), some (), some (), some (), some (), some (), some (), some (), some (), some (), some (), some (), some (), some (), some (), some (), some (), some (), some (), some (), some (), some (), some ()] (some ())) := by
    refine r_table (td := 1089) [196, 229, 262, 295, 358, 381, 394, 407, 420, 433, 446, 459, 482, 505, 538, 571, 584, 597, 620, 633, 676, 699, 733, 756, 779, 802, 835, 848, 861, 884, 918, 951, 984, 1007, 1030, 1053, 1076] hx (hd 21) rfl rfl rfl (by decide) ?_ ?_
    · refine z_iinc (pc' := 1092) (v := Int32.ofNat (i + 6)) (L' := [(3, .int (Int32.ofNat (i + 6))), (0, .ref b), (1, .ref t), (2, .ref u)]) (j := 3) hx (hd 693) rfl (l6 (by omega)) (by decide) rfl rfl ?_
      refine r_goto (tgt := 18) hx (hd 694) (by decide) ?_
      refine r_sub [1, 2, 3, 0] rfl ?_
      exact nx.le (by omega) (by omega) w M T hx hwz hLy ht hu hT hI
    refine ⟨?_, ?_, ?_, ?_, ?_, ?_, ?_, ?_, ?_, ?_, ?_, ?_, ?_, ?_, ?_, ?_, ?_, ?_, ?_, ?_, ?_, ?_, ?_, ?_, ?_, ?_, ?_, ?_, ?_, ?_, ?_, ?_, ?_, ?_, ?_, ?_, ?_,  trivial⟩
    · exact lp_card hL3 C0 s0 t u i K N hi nx w M T hx hwz hLy ht hu hT hI
    · exact lp_hand hL3 C0 s1 t u i K N hi nx w M T hx hwz hLy ht hu hT hI
    · exact lp_terms hL3 C0 s2 t u i K N hi nx w M T hx hwz hLy ht hu hT hI
    · exact lp_feed hL3 C0 s3 t u i K N hi nx w M T hx hwz hLy ht hu hT hI
    · exact lp_end hL3 C0 s4 t u i K N hi nx w M T hx hwz hLy ht hu hT hI
    · exact lp_row hL3 C0 s5 t u i K N hi nx w M T hx hwz hLy ht hu hT hI
    · exact lp_jokers hL3 C0 s6 t u i K N hi nx w M T hx hwz hLy ht hu hT hI
    · exact lp_law hL3 C0 s7 t u i K N hi nx w M T hx hwz hLy ht hu hT hI
    · exact lp_orders hL3 C0 s8 t u i K N hi nx w M T hx hwz hLy ht hu hT hI
    · exact lp_fault hL3 C0 s9 t u i K N hi nx w M T hx hwz hLy ht hu hT hI
    · exact lp_stopped hL3 C0 s10 t u i K N hi nx w M T hx hwz hLy ht hu hT hI
    · exact lp_force hL3 C0 s11 t u i K N hi nx w M T hx hwz hLy ht hu hT hI
    · exact lp_deal hL3 C0 s12 t u i K N hi nx w M T hx hwz hLy ht hu hT hI
    · exact lp_lay hL3 C0 s13 t u i K N hi nx w M T hx hwz hLy ht hu hT hI
    · exact lp_play hL3 C0 s14 t u i K N hi nx w M T hx hwz hLy ht hu hT hI
    · exact lp_show hL3 C0 s15 t u i K N hi nx w M T hx hwz hLy ht hu hT hI
    · exact lp_undo hL3 C0 s16 t u i K N hi nx w M T hx hwz hLy ht hu hT hI
    · exact lp_hold hL3 C0 s17 t u i K N hi nx w M T hx hwz hLy ht hu hT hI
    · exact lp_drop hL3 C0 s18 t u i K N hi nx w M T hx hwz hLy ht hu hT hI
    · exact lp_counted hL3 C0 s19 t u i K N hi nx w M T hx hwz hLy ht hu hT hI
    · exact lp_kept hL3 C0 s20 t u i K N hi nx w M T hx hwz hLy ht hu hT hI
    · exact lp_cribOf hL3 C0 s21 t u i K N hi nx w M T hx hwz hLy ht hu hT hI
    · exact lp_byStarters hL3 C0 s22 t u i K N hi nx w M T hx hwz hLy ht hu hT hI
    · exact lp_bestStarter hL3 C0 s23 t u i K N hi nx w M T hx hwz hLy ht hu hT hI
    · exact lp_toEnd hL3 C0 s24 t u i K N hi nx w M T hx hwz hLy ht hu hT hI
    · exact lp_seen hL3 C0 s25 t u i K N hi nx w M T hx hwz hLy ht hu hT hI
    · exact lp_forget hL3 C0 s26 t u i K N hi nx w M T hx hwz hLy ht hu hT hI
    · exact lp_canBe hL3 C0 s27 t u i K N hi nx w M T hx hwz hLy ht hu hT hI
    · exact lp_ask hL3 C0 s28 t u i K N hi nx w M T hx hwz hLy ht hu hT hI
    · exact lp_few hL3 C0 s29 t u i K N hi nx w M T hx hwz hLy ht hu hT hI
    · exact lp_compare hL3 C0 s30 t u i K N hi nx w M T hx hwz hLy ht hu hT hI
    · exact lp_rubbers hL3 C0 s31 t u i K N hi nx w M T hx hwz hLy ht hu hT hI
    · exact lp_drawn hL3 C0 s32 t u i K N hi nx w M T hx hwz hLy ht hu hT hI
    · exact lp_image hL3 C0 s33 t u i K N hi nx w M T hx hwz hLy ht hu hT hI
    · exact lp_back hL3 C0 s34 t u i K N hi nx w M T hx hwz hLy ht hu hT hI
    · exact lp_count hL3 C0 s35 t u i K N hi nx w M T hx hwz hLy ht hu hT hI
    · exact lp_status hL3 C0 s36 t u i K N hi nx w M T hx hwz hLy ht hu hT hI
  rw [sw_const (fun g hg => swc g hg)] at key
  exact key
theorem lcmp6 {i L : Nat} (hL : L ≤ 3072) (hi : i ≤ 3072) : (Int32.ofNat L - 6 < Int32.ofNat i ↔ L < i + 6) := by
  have e1 : (Int32.ofNat L).toInt = (L : Int) := Int32.toInt_ofNat_of_lt (by omega)
  have e2 : (Int32.ofNat i).toInt = (i : Int) := Int32.toInt_ofNat_of_lt (by omega)
  have e3 : (Int32.ofNat L - 6).toInt = (L : Int) - 6 := by
    rw [Int32.toInt_sub, e1]
    have : (6 : Int32).toInt = 6 := rfl
    rw [this]
    exact Int.bmod_eq_of_le (by omega) (by omega)
  rw [Int32.lt_iff_toInt_lt, e3, e2]
  omega
section RM
variable {p : Program} {l : Launch} {e : Env} {s : State} {m : MethodId} {below : List Frame} {meth : Method} {c : Code} {b L : Nat} {xs : Nat → Int32} {w : WX} {M : Mem} {K N i t u : Nat}
theorem z_gt {τ : Type} {own : String} {nL fr lo pc pc' : Nat} {ret' : Option FieldType} {x : MX} {Q : τ → State → Prop} {Lo : List (Nat × Value)} {rest : List Value} {f : Option τ} {x1 y1 : Int32} {off : Int} (tgt : Nat) (hx : Ok own nL ret' fr lo w x) (hdg : decode (xc x).code pc = .ok (.if_icmp .gt off, 3)) (ht : (pc : Int) + off = (tgt : Int)) (kt : y1 < x1 → C x w Q nL tgt Lo rest M f) (hp : pc + 3 = pc') (kf : ¬ y1 < x1 → C x w Q nL pc' Lo rest M f) : C x w Q nL pc Lo (.int y1 :: .int x1 :: rest) M f := by
  have e := r_icmp_gt (tgt := tgt) (g := f) (f := f) hx hdg ht kt hp kf
  rwa [ite_self] at e
set_option maxRecDepth 20000 in
theorem lp_go (hL3 : L ≤ 3072) (C0 : lw_At p s m meth c b L xs) (hc : i + 6 ≤ L) (hx : Ok R_law 4 ret 2048 84000 w (xat (lx p l e s m below meth c b) K N)) (hwz : wz w = s.heap.size) (kk : C (xat (lx p l e s m below meth c b) K N) w (fun _ : Unit => lw_Z below #[Value.ref b] s) 4 27 [(0, .ref b), (1, .ref t), (2, .ref u), (3, .int (Int32.ofNat i))] [] M (some ())) : C (xat (lx p l e s m below meth c b) K N) w (fun _ : Unit => lw_Z below #[Value.ref b] s) 4 18 [(0, .ref b), (1, .ref t), (2, .ref u), (3, .int (Int32.ofNat i))] [] M (some ()) := by
  have hd : ∀ i, DAt (xc (lx p l e s m below meth c b)).code (tbL[i]?) := fun i => by show DAt c.code _; rw [C0.2.1]; exact dat_of dL i
  refine r_iload_n (pc' := 19) hx (hd 10) rfl 3 rfl rfl ?_
  refine r_aload_n (pc' := 20) hx (hd 11) rfl 0 rfl rfl ?_
  refine z_slen (pc' := 21) C0 hwz hx (hd 12) rfl ?_
  refine r_bipush (pc' := 23) (v := 6) hx (hd 13) (by decide) rfl ?_
  refine r_isub (pc' := 24) hx (hd 14) rfl ?_
  refine z_gt (pc' := 27) 1095 hx (hd 15) (by decide) (fun h => ?_) rfl (fun _ => kk)
  exact absurd ((lcmp6 hL3 (by omega)).mp h) (by omega)
set_option maxRecDepth 20000 in
theorem lp_exit (hL3 : L ≤ 3072) (C0 : lw_At p s m meth c b L xs) (hi : i ≤ 3072) (hc : L < i + 6) (hK : K ≤ 600000) (hN : N ≤ 7302250) (hx : Ok R_law 4 ret 2048 84000 w (xat (lx p l e s m below meth c b) K N)) (hwz : wz w = s.heap.size) : C (xat (lx p l e s m below meth c b) K N) w (fun _ : Unit => lw_Z below #[Value.ref b] s) 4 18 [(0, .ref b), (1, .ref t), (2, .ref u), (3, .int (Int32.ofNat i))] [] M (some ()) := by
  have hd : ∀ i, DAt (xc (lx p l e s m below meth c b)).code (tbL[i]?) := fun i => by show DAt c.code _; rw [C0.2.1]; exact dat_of dL i
  refine r_iload_n (pc' := 19) hx (hd 10) rfl 3 rfl rfl ?_
  refine r_aload_n (pc' := 20) hx (hd 11) rfl 0 rfl rfl ?_
  refine z_slen (pc' := 21) C0 hwz hx (hd 12) rfl ?_
  refine r_bipush (pc' := 23) (v := 6) hx (hd 13) (by decide) rfl ?_
  refine r_isub (pc' := 24) hx (hd 14) rfl ?_
  refine z_gt (pc' := 27) 1095 hx (hd 15) (by decide) (fun h => ?_) rfl (fun h => absurd ((lcmp6 hL3 hi).mpr hc) h)
  refine r_iconst (pc' := 1096) (v := 1) hx (hd 695) (by decide) rfl ?_
  intro t9 ht H locs ls hH hS hl
  refine va_forget (fun q hq => by have := hS.2.2 q hq; show s.heap.size ≤ q.base; rw [← hwz]; exact this) ?_
  refine W.widen (k := 600000) (n := 7302250) hK hN ?_
  exact lw_ret C0.1 C0.2.1 C0.2.2.1 C0.2.2.2.2.2.2.2.2.1 (by have := hd 696; rw [show (xc (lx p l e s m below meth c b)).code = code from C0.2.1] at this; exact this)
end RM
set_option maxRecDepth 20000 in
theorem lp_head {p : Program} {l : Launch} {e : Env} {s : State} {m : MethodId} {below : List Frame} {meth : Method} {c : Code} {b L : Nat} {xs : Nat → Int32} {Inv : Nat → Nat → Nat → Mem → Prop} (hL3 : L ≤ 3072) (C0 : lw_At p s m meth c b L xs) (hSt : StAll Inv) (t u : Nat) : ∀ (n i K N : Nat), L ≤ i + 6 * n → i ≤ 3072 → K + 3 * n ≤ 600000 → N + 877 * n ≤ 7302250 → LpB p l e s m below meth c b L Inv t u i K N 18 := by
  intro n
  induction n with
  | zero =>
    intro i K N hn hi hK hN w M T hx hwz hLy ht hu hT hI
    have hd : ∀ i, DAt (xc (lx p l e s m below meth c b)).code (tbL[i]?) := fun i => by show DAt c.code _; rw [C0.2.1]; exact dat_of dL i
    exact lp_exit hL3 C0 hi (by omega) (by omega) (by omega) hx hwz
  | succ n ih =>
    intro i K N hn hi hK hN
    by_cases hc : i + 6 ≤ L
    · have nx : LpN p l e s m below meth c b L Inv t u (i + 6) (K + 3) (N + 877) := ⟨by omega, by omega, fun K' N' h1 h2 => ih (i + 6) K' N' (by omega) (by omega) (by omega) (by omega)⟩
      have body := lp_all hL3 C0 hSt t u i K N hc nx
      intro w M T hx hwz hLy ht hu hT hI
      exact lp_go hL3 C0 hc hx hwz (body w M T hx hwz hLy ht hu hT hI)
    · intro w M T hx hwz hLy ht hu hT hI
      exact lp_exit hL3 C0 hi (by omega) (by omega) (by omega) hx hwz
