/-! ===== rows that make cells ===== -/
def xat (x : MX) (K N : Nat) : MX := (x.1, x.2.1, x.2.2.1, x.2.2.2.1, x.2.2.2.2.1, x.2.2.2.2.2.1, x.2.2.2.2.2.2.1, x.2.2.2.2.2.2.2.1, x.2.2.2.2.2.2.2.2.1, x.2.2.2.2.2.2.2.2.2.1, K, N)
def layG (G : List (Nat × Nat)) : Bool := (List.range G.length).all fun o => ((finT.getD (kat G o).1 []).all fun e => match e with
    | none => true
    | some q => kat G (o + q.1) == (q.2.1, q.2.2) && decide (o + q.1 < G.length)) && (match afn (kat G o).1 with
    | none => true
    | some q => (List.range (kat G o).2).all fun i => kat G (o + q.2.1 + q.2.2.1 * i) == (q.2.2.2.1, q.2.2.2.2) && decide (o + q.2.1 + q.2.2.1 * i < G.length))
theorem kat_get {G : List (Nat × Nat)} {o : Nat} (h : o < G.length) : G[o]? = some (kat G o) := by
  unfold kat
  rw [List.getD_eq_getElem?_getD, List.getElem?_eq_getElem h]; rfl
theorem lay_wg {w : WX} {t : Nat} {G : List (Nat × Nat)} (hL : Lay w) (hb : Bel w t) (h : layG G = true) : Lay (wg w t G) := by
  have hall : ∀ o, o < G.length → _ := fun o ho => List.all_eq_true.mp h o (List.mem_range.mpr ho)
  constructor
  · intro a ci n ha k o kd n' hf
    rcases wat_inv hb ha with h1 | ⟨p, rfl, hp⟩
    · exact wat_old hb (hL.1 a ci n h1 k o kd n' hf)
    · have hl : p < G.length := (List.getElem?_eq_some_iff.mp hp).1
      have hk : kat G p = (ci, n) := Option.some.inj ((kat_get hl).symm.trans hp)
      have h2 := hall p hl
      rw [Bool.and_eq_true, hk] at h2
      have h3 := List.all_eq_true.mp h2.1
      have hm : some (o, kd, n') ∈ finT.getD ci [] := by
        unfold fin at hf
        rw [List.getD_eq_getElem?_getD] at hf
        cases e : (finT.getD ci [])[k]? with
        | none => rw [e] at hf; cases hf
        | some z => rw [e] at hf; exact List.mem_of_getElem? (e.trans (congrArg some hf))
      have h4 := h3 _ hm
      simp only [Bool.and_eq_true, beq_iff_eq, decide_eq_true_eq] at h4
      rw [Nat.add_assoc]
      exact wat_new ((kat_get h4.2).trans (congrArg some h4.1))
  · intro a kd n ha c off st ek en hf i hi
    rcases wat_inv hb ha with h1 | ⟨p, rfl, hp⟩
    · exact wat_old hb (hL.2 a kd n h1 c off st ek en hf i hi)
    · have hl : p < G.length := (List.getElem?_eq_some_iff.mp hp).1
      have hk : kat G p = (kd, n) := Option.some.inj ((kat_get hl).symm.trans hp)
      have h2 := hall p hl
      rw [Bool.and_eq_true, hk] at h2
      have h3 := h2.2
      simp only [hf] at h3
      have h4 := List.all_eq_true.mp h3 i (List.mem_range.mpr hi)
      simp only [Bool.and_eq_true, beq_iff_eq, decide_eq_true_eq] at h4
      rw [show t + p + off + st * i = t + (p + off + st * i) by omega]
      exact wat_new ((kat_get h4.2).trans (congrArg some h4.1))
theorem cE_old {w : WX} {M : Mem} {t a : Nat} {G G' : List (Nat × Nat)} (h : a < t + G.length) : cE (wg w t (G ++ G')) M a = cE (wg w t G) M a := by
  have e : wG (wg w t (G ++ G')) a = wG (wg w t G) a := by
    rw [wg_app]
    show (if _ then _ else _) = _
    rw [if_neg (by omega)]
  show cEk _ M a _ _ = cEk _ M a _ _
  rw [e]; rfl
theorem wcl_grow {w : WX} {M : Mem} {t : Nat} {G : List (Nat × Nat)} {g : Nat × Nat} (hb : Bel w t) : wcl (wg w t (G ++ [g])) M = wcl (wg w t G) M ++ [(t + G.length, cE (wg w t (G ++ [g])) M (t + G.length))] := by
  show va_pl (wdom (wg w t (G ++ [g]))) _ = _
  have e : wdom (wg w t (G ++ [g])) = wdom (wg w t G) ++ [t + G.length] := by
    rw [wg_app]; rfl
  rw [e]
  unfold va_pl
  rw [List.map_append]
  congr 1
  apply List.map_congr_left
  intro a ha
  rw [cE_old (bel_wg hb a ha)]
theorem wt_grow {w : WX} {M : Mem} {t : Nat} {G : List (Nat × Nat)} {g : Nat × Nat} (hb : Bel w t) (h : WT (wg w t G) M) (hn : ∀ k, mR M (t + G.length) k = none) : WT (wg w t (G ++ [g])) M := by
  intro a kd n ha k kd' b hm hb2
  rw [wg_app] at ha ⊢
  rcases wat_inv (bel_wg hb) ha with h1 | ⟨o, rfl, ho⟩
  · exact wat_old (bel_wg hb) (h a kd n h1 k kd' b hm hb2)
  · have : o = 0 := by
      have := (List.getElem?_eq_some_iff.mp ho).1
      simp at this; omega
    subst this
    rw [Nat.add_zero, hn k] at hb2
    cases hb2
theorem hol_grow {w : WX} {M : Mem} {t : Nat} {G : List (Nat × Nat)} {g : Nat × Nat} {H H1 : Heap} (hb : Bel w t) (hz : wz w ≤ t) (hH : Hol (wg w t G) M H) (hsz : H.size = t + G.length) (hold : ∀ q : Nat, q < H.size → H1[q]? = H[q]?) (hat : va_at (wD w) cls (t + G.length, cE (wg w t (G ++ [g])) M (t + G.length)) H1) (hn : ∀ k, mR M (t + G.length) k = none) : Hol (wg w t (G ++ [g])) M H1 := by
  refine ⟨?_, ?_, wt_grow hb hH.2.2 hn⟩
  · rw [wcl_grow hb]
    refine (hH.1.kept (fun k x hx => hold x.1 ((hH.1 k x hx).lt))).app (fun k x hx => ?_)
    have h0 : k < 1 := (List.getElem?_eq_some_iff.mp hx).1
    rw [show k = 0 by omega] at hx
    cases hx
    exact hat
  · rw [wcl_grow hb]
    have := hH.2.1.push (e := cE (wg w t (G ++ [g])) M (t + G.length)) hH.1 rfl (show A0 (wg w t G) H.size by show wz w ≤ H.size; omega)
    rw [hsz] at this
    exact this
section RA
variable {τ : Type} {own : String} {nL fr lo : Nat} {ret : Option FieldType} {w : WX} {x : MX} {Q : τ → State → Prop} {pc : Nat} {L L' : List (Nat × Value)} {rest : List Value} {M M' : Mem} {f : Option τ} {t K N : Nat} {G : List (Nat × Nat)}
theorem ok_grow {w' : WX} {K' N' : Nat} (hx : Ok own nL ret fr lo w (xat x K N)) (h1 : wD w' = wD w) (h2 : wAy w' = wAy w) (h3 : wz w' = wz w) (h4 : wsa w' = wsa w) (hL : Lay w') (hk : K' ≤ (xR x).cells) (hn : N' ≤ (xR x).slots) : Ok own nL ret fr lo w' (xat x K' N') := by
  obtain ⟨a1, a2, a3, a4, a5, a6, a7, a8⟩ := hx
  obtain ⟨d1, d2, d3, d4, d5⟩ := w
  obtain ⟨e1, e2, e3, e4, e5⟩ := w'
  cases h1; cases h2; cases h3; cases h4
  exact ⟨a1, a2, a3, ⟨a4.1, a4.2.1, a4.2.2.1, hL, a4.2.2.2.2⟩, a5, a6, ⟨a7.1, a7.2.1, hk, hn⟩, a8⟩
/-- how large the heap is: as many new cells as are counted -/
theorem r_szA {st : List Value} (hb : Bel w t) (hG : 0 < G.length ∨ K = 0) (hs : (xs_ x).heap.size + K = t + G.length) (h : ∀ t9, f = some t9 → ∀ (H : Heap) (locs : List Loc) (ls : Array Slot), H.size = t + G.length → Hol (wg w t G) M H → va_S (A0 w) (xs_ x).heap H locs → lv_has ls nL L →
    W (xp x) (xl x) (xe x) (xR x) (xs_ x) (xm x) (xa x) (xb x) (xt x) (xc x) H locs K N (Q t9) (F0 (xm x) pc ls st)) : C (xat x K N) (wg w t G) Q nL pc L st M f := by
  intro t9 ht H locs ls hH hS hl T hT X
  have h1 : H.size ≤ (xs_ x).heap.size + K := by rw [← hT]; exact X.heapSize
  have h2 : t + G.length ≤ H.size := by
    rcases hG with hG | hG
    rotate_left
    · have : (xs_ x).heap.size ≤ H.size := hS.1
      omega
    obtain ⟨k9, hk9⟩ := wcl_get (w := wg w t G) (M := M) (a := t + (G.length - 1)) (wg_dom.mpr (Or.inr (by omega)))
    have := (hH.1 k9 _ hk9).lt
    show t + G.length ≤ H.size
    have h3 : t + (G.length - 1) < H.size := this
    omega
  exact h t9 ht H locs ls (by omega) hH hS hl T hT X
theorem q_newa {o : Nat} {kd c n gn : Nat} {at1 : ArrayType} {ty : FieldType} {n1 : Int32} {e9 : (Nat → Int32) ⊕ (Nat → Int64) ⊕ (Nat → UInt32) ⊕ (Nat → UInt64) ⊕ (Nat → Option Nat)} (ho : G.length = o) (hb : Bel w t) (hz : wz w ≤ t) (hG : 0 < G.length ∨ K = 0) (hs : (xs_ x).heap.size + K = t + G.length) (hx : Ok own nL ret fr lo (wg w t G) (xat x K N)) (hdg : decode (xc x).code pc = .ok (.newarray at1, 2)) (hty : newarray.typeOf at1 = ty) (harr : Cond.arrayClass ty ∈ UW) (hc : (wtys w)[c]? = some (wAy w c, ty)) (hra : ∀ U cA, va_RA U cA ty → U.vm.findClass ("[" ++ ty.toString) = some cA) (hn : ¬ n1 < 0) (hN : n1.toNatClampNeg = n) (hby : n * componentBytes ty ≤ 536870912) (hk : K + 1 ≤ (xR x).cells) (hsl : N + n ≤ (xR x).slots) (hdef : ∀ cA : ClassId, arrV cA n (fun _ => defaultValue ty) = vp_cell cA (n, e9)) (hce : cE (wg w t (G ++ [(kd, gn)])) M (t + G.length) = .inl (wAy w c, n, e9)) (hnr : ∀ k, mR M (t + G.length) k = none)
    (kk : C (xat x (K + 1) (N + n)) (wg w t (G ++ [(kd, gn)])) Q nL (pc + 2) L (.ref (t + o) :: rest) M f) : C (xat x K N) (wg w t G) Q nL pc L (.int n1 :: rest) M f := by
  subst ho
  refine r_szA hb hG hs (fun t9 ht H locs ls hsz hH hS hl => ?_)
  refine va_newaK hx.1 rfl (by rw [hty]; exact hx.2.2.1 _ harr) rfl hdg rfl hn hN (by rw [hty]; exact hby) hk hsl hsz (fun H1 cA e1 z1 o1 hA1 hfc => ?_)
  rw [hty] at e1 hfc
  have hcA : wAy w c = cA := by
    have := hra _ _ (hx.2.2.2.1.2.1.2 c _ hc).2
    exact Option.some.inj (this.symm.trans hfc)
  refine kk t9 ht H1 locs ls (hol_grow hb hz hH hsz (fun q hq => o1 q (by omega)) ?_ hnr) ⟨Nat.le_trans hS.1 (by omega), fun q h1 h2 => (o1 q (Nat.lt_of_lt_of_le h1 (Nat.le_trans hS.1 (Nat.le_of_eq hsz)))).trans (hS.2.1 q h1 h2), hS.2.2⟩ hl
  rw [hce]
  show H1[t + G.length]? = some (vp_cell _ _)
  rw [e1, hdef, hcA]
theorem q_newO {o : Nat} {ci idx : Nat} {Cn : String} {T : u_T} (ty : Nat → FieldType) (ho : G.length = o) (hb : Bel w t) (hz : wz w ≤ t) (hG : 0 < G.length ∨ K = 0) (hs : (xs_ x).heap.size + K = t + G.length) (hx : Ok own nL ret fr lo (wg w t G) (xat x K N)) (hdg : decode (xc x).code pc = .ok (.new idx, 3)) (hcl : cls[ci]? = some (Cn, T, nf ci)) (hin : ∀ q ∈ u_ws Cn T (nf ci), q ∈ UW) (hty : ∀ k, k < nf ci → parseFieldDescriptor (T k).2.2.1 = some (ty k)) (hlk : Cond.classLink own idx Cn ∈ UW) (hins : Cond.instantiable Cn (nf ci) ∈ UW) (hini : Cond.initialized Cn ∈ UW) (hci : ci < 20) (hk : K + 1 ≤ (xR x).cells) (hsl : N + nf ci ≤ (xR x).slots) (hI : mI M (t + G.length) = fun _ => 0) (hJ : mJ M (t + G.length) = fun _ => 0) (hR : mR M (t + G.length) = fun _ => none) (hdv : ∀ k, k < nf ci → defaultValue (ty k) = match fk ci k with | 0 => .int 0 | 1 => .long 0 | _ + 2 => .null)
    (kk : C (xat x (K + 1) (N + nf ci)) (wg w t (G ++ [(40 + ci, 0)])) Q nL (pc + 3) L (.ref (t + o) :: rest) M f) : C (xat x K N) (wg w t G) Q nL pc L rest M f := by
  subst ho
  refine r_szA hb hG hs (fun t9 ht H locs ls hsz hH hS hl => ?_)
  have hU := hx.2.2.1
  have hKn := hx.2.2.2.1.2.1.1 ci _ hcl
  refine W.newcK hx.1 rfl hx.2.1 (hU _ hlk) (hU _ hins) (hU _ hini) rfl hdg hk hsl hKn.2.1 hsz fun H1 kC hkC e1 z1 o1 => ?_
  refine kk t9 ht H1 locs ls (hol_grow hb hz hH hsz (fun q hq => o1 q (by omega)) ?_ (fun k => by rw [hR])) ⟨Nat.le_trans hS.1 (by omega), fun q h1 h2 => (o1 q (Nat.lt_of_lt_of_le h1 (Nat.le_trans hS.1 (Nat.le_of_eq hsz)))).trans (hS.2.1 q h1 h2), hS.2.2⟩ hl
  have hw : Wat (wg w t (G ++ [(40 + ci, 0)])) (t + G.length) (40 + ci) 0 := wat_new (by simp)
  rw [hw.ate M]
  unfold cEk
  rw [if_neg (by omega), if_pos (by omega), show 40 + ci - 40 = ci by omega]
  refine ⟨_, hcl, (u_born ty hU hin hKn hkC e1 hty).to (fun k hk => ?_)⟩
  rw [hdv k hk]
  unfold vp_V
  show _ = ((List.range (nf ci)).map (fvr ci M (t + G.length))).getD k .null
  rw [List.getD_eq_getElem?_getD, List.getElem?_map, List.getElem?_range hk]
  show _ = fvr ci M (t + G.length) k
  unfold fvr
  rw [hI, hJ, hR]
  generalize fk ci k = z
  rcases z with _ | _ | z <;> rfl
end RA
