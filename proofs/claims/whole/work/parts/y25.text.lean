abbrev yX9_init_1 : MethodName := ({ cls := "CribbageRoom$Text", name := "<init>", desc := "(LCribbageRoom$Text;)V" } : Jvm.MethodName)
def tbX9_init_1 : List (Nat × Instr × Nat) := [(0, .aload_n 0, 1), (1, .invokespecial 3, 3), (4, .aload_n 0, 1), (5, .aload_n 1, 1), (6, .getfield 9, 3), (9, .aload_n 1, 1), (10, .getfield 18, 3), (13, .invokestatic 22, 3), (16, .putfield 9, 3), (19, .aload_n 0, 1), (20, .aload_n 1, 1), (21, .getfield 15, 3), (24, .aload_n 1, 1), (25, .getfield 28, 3), (28, .bipush 6, 2), (30, .imul, 1), (31, .invokestatic 22, 3), (34, .putfield 15, 3), (37, .aload_n 0, 1), (38, .aload_n 1, 1), (39, .getfield 18, 3), (42, .putfield 18, 3), (45, .aload_n 0, 1), (46, .aload_n 1, 1), (47, .getfield 28, 3), (50, .putfield 28, 3), (53, .aload_n 0, 1), (54, .aload_n 1, 1), (55, .getfield 31, 3), (58, .putfield 31, 3), (61, .return_, 1)]
theorem dX9_init_1 : ∀ q ∈ tbX9_init_1, decode prog_11_method_2_code q.1 = .ok q.2 := by decide +kernel
theorem lkJ_9_18 : Cond.fieldLink "CribbageRoom$Text" 18 "CribbageRoom$Text" "length" "I" ∈ UW := uw_in (in_1 _ (List.mem_of_getElem? (i := 185) rfl)) rfl
theorem fw_9_18 : FW "CribbageRoom$Text" 18 9 2 .int := ⟨_, _, tyX9, rfl, inX9, by decide, lkJ_9_18, tyX9_ok, nmX9, rfl, by decide +kernel⟩
theorem lkJ_9_28 : Cond.fieldLink "CribbageRoom$Text" 28 "CribbageRoom$Text" "clauseCount" "I" ∈ UW := uw_in (in_1 _ (List.mem_of_getElem? (i := 187) rfl)) rfl
theorem fw_9_28 : FW "CribbageRoom$Text" 28 9 3 .int := ⟨_, _, tyX9, rfl, inX9, by decide, lkJ_9_28, tyX9_ok, nmX9, rfl, by decide +kernel⟩
theorem lkJ_9_31 : Cond.fieldLink "CribbageRoom$Text" 31 "CribbageRoom$Text" "changing" "Z" ∈ UW := uw_in (in_1 _ (List.mem_of_getElem? (i := 191) rfl)) rfl
theorem fw_9_31 : FW "CribbageRoom$Text" 31 9 4 .boolean := ⟨_, _, tyX9, rfl, inX9, by decide, lkJ_9_31, tyX9_ok, nmX9, rfl, by decide +kernel⟩
theorem flI_9_31 : FL "CribbageRoom$Text" 31 9 4 := ⟨_, _, rfl, inX9, by decide, lkJ_9_31⟩
theorem mlT_22 : Cond.methodLink "CribbageRoom$Text" 22 ({ cls := "java/util/Arrays", name := "copyOf", desc := "([II)[I" } : Jvm.MethodName) ∈ UW := uw_in (in_4 _ (List.mem_of_getElem? (i := 83) rfl)) rfl
/-! ===== new Text(draft) ===== -/
theorem txok_iff {M : Mem} {d : Nat} (h : txok M d = true) : mN M (d + 1) = 800 ∧ mN M (d + 2) = 72 ∧ ¬ mI M d 2 < 0 ∧ ix (mI M d 2) ≤ 800 ∧ ¬ mI M d 3 * 6 < 0 ∧ ix (mI M d 3 * 6) ≤ 72 ∧ isB (mI M d 4) = true := by
  unfold txok at h
  simp only [Bool.and_eq_true, decide_eq_true_eq, Bool.not_eq_true', decide_eq_false_iff_not] at h
  exact h
section RQ
variable {τ τ' : Type} {own : String} {nL fr lo : Nat} {ret : Option FieldType} {w : WX} {x : MX} {Q : τ → State → Prop} {pc pc' : Nat} {L L' : List (Nat × Value)} {M M' : Mem} {f : Option τ} {t K N kc ks : Nat} {G : List (Nat × Nat)} {ev' : τ' → Option Value} {eg' : τ' → List (Nat × Nat)} {em' : τ' → Mem}
theorem q_callGS {o idx n fr' lo' nL' : Nat} {y : MethodName} {cc' : ByteArray} {ret' : Option FieldType} {As st0 rest : List Value} {r : τ'} (ho : G.length = o) (hb : Bel w t) (hG : 0 < G.length ∨ K = 0) (hs : (xs_ x).heap.size + K = t + G.length) (hx : Ok own nL ret fr lo (wg w t G) (xat x K N)) (hdg : decode (xc x).code pc = .ok (.invokestatic idx, 3)) (hmd : MD y cc' nL' ret' n) (hin : Cond.static y ∈ UW) (hlk : Cond.methodLink own idx y ∈ UW) (hct : CtG (xl x) (wg w t G) (t + o) y cc' nL' ret' fr' lo' kc ks ev' eg' em' As M (some r)) (hR : fr' + 1 ≤ fr ∧ 8 + (nL' + 11) + lo' ≤ lo) (hk : K + kc ≤ (xR x).cells) (hsl : N + ks ≤ (xR x).slots) (hst : st0 = As.reverse ++ rest) (hn : As.length = n) (hcat : (rest.map fun v => v.category).sum ≤ 8)
    (kk : C (xat x (K + kc) (N + ks)) (wg w t (G ++ eg' r)) Q nL (pc + 3) L ((ev' r).toList ++ rest) (em' r) f) : C (xat x K N) (wg w t G) Q nL pc L st0 M f := by
  subst ho
  refine r_szA hb hG hs (fun t9 ht H locs ls hsz hH hS hl => ?_)
  have hpre : ∀ U : State, U.heap = H → (xs_ x).WarmedH U.vm → PcG (wg w t G) (t + G.length) As M As.toArray U := by
    intro U hU hW
    exact ⟨rfl, by rw [hU, hsz], by rw [hU]; exact hH, hx.2.2.2.1.moved hW.alike (fun _ _ _ _ h => vk_R.warm hW h) (by rw [hU]; exact hS.1) (fun a h1 h2 => by rw [hU]; exact hS.2.1 a h1 h2)⟩
  have hrun : va_Run (xp x) (xl x) (xe x) (xR x) (xs_ x) (xm x) (xa x) (xb x) (xt x) (xc x) H locs K N kc ks (F0 (xm x) pc ls st0) rest (QcG (wg w t G) (t + G.length) (ev' r) (eg' r) (em' r) As.toArray) (A0 w) := va_runS (nL := nL) ⟨hx.1, rfl, hx.2.2.2.2.2.2.2, hx.2.1, hx.2.2.1⟩ (hct r rfl) ⟨mkBI (x := xat x K N) hx hmd hlk hR, hx.2.2.1 _ hin⟩ ⟨PcG.blind _ _ _ M, hpre⟩ rfl hn hl.1 hst (lv_room hcat) hdg ⟨hk, hsl⟩
  intro T hT X
  obtain ⟨v, st₀, t1, T', Lc, h0, X', hL, e1, e2, ⟨hv, hH1, hF1⟩, st⟩ := hrun T hT X
  cases hv
  have hzz : H.size ≤ T'.heap.size := by rw [e1, ← h0]; exact hF1.1
  have hkp : ∀ q : Nat, q < H.size → ¬ A0 w q → T'.heap[q]? = H[q]? := fun q h1 h2 => by rw [e1, ← h0]; exact hF1.2 q (by rw [h0]; exact h1) h2
  rw [← wg_app] at hH1
  have kk1 := kk t9 ht T'.heap (locs ++ Lc) ls (by rw [e1]; exact hH1) ⟨Nat.le_trans hS.1 hzz, fun q h1 h2 => by rw [hkp q (Nat.lt_of_lt_of_le h1 hS.1) h2]; exact hS.2.1 q h1 h2, fun q hq => by
    rcases List.mem_append.mp hq with h | h
    · exact hS.2.2 q h
    · exact hL q h⟩ hl
  obtain ⟨t2, a1, b1⟩ := kk1 T' rfl X'
  exact ⟨t2, st t2 a1, b1⟩
end RQ
theorem put_congr {M U V : Mem} {t S : Nat} (h : ∀ o, o < S → mI U o = mI V o ∧ mJ U o = mJ V o ∧ mR U o = mR V o ∧ mN U o = mN V o) : put M t S U = put M t S V := by
  refine put_ext (fun o ho => ?_) (fun a ha => put_outy ha)
  obtain ⟨a1, a2, a3, a4⟩ := put_at (M := M) (U := U) (t := t) ho
  obtain ⟨b1, b2, b3, b4⟩ := h o ho
  exact ⟨a1.trans b1, a2.trans b2, a3.trans b3, a4.trans b4⟩
def utx (M : Mem) (t d : Nat) : Mem := sI (sI (sI (sR (put (sR (put Z0 1 1 (cpU M (d + 1) (ix (mI M d 2)))) 0 0 (some (t + 1))) 2 1 (cpU M (d + 2) (ix (mI M d 3 * 6)))) 0 1 (some (t + 2))) 0 2 (mI M d 2)) 0 3 (mI M d 3)) 0 4 (mI M d 4)
theorem utx_eq {M : Mem} {t d : Nat} (o : Nat) (ho : o < 3) : mI (clrR (utx M t d)) o = mI (txU M d) o ∧ mJ (clrR (utx M t d)) o = mJ (txU M d) o ∧ mR (clrR (utx M t d)) o = mR (txU M d) o ∧ mN (clrR (utx M t d)) o = mN (txU M d) o := by
  match o, ho with
  | 0, _ =>
    refine ⟨?_, rfl, rfl, rfl⟩
    funext k
    match k with
    | 0 => rfl
    | 1 => rfl
    | 2 => rfl
    | 3 => rfl
    | 4 => rfl
    | k + 5 =>
      show mI (utx M t d) 0 (k + 5) = if k + 5 = 2 ∨ k + 5 = 3 ∨ k + 5 = 4 then mI M d (k + 5) else 0
      rw [if_neg (by omega)]
      have e : ∀ (U : Mem) (i : Nat) (v : Int32), i ≠ k + 5 → mI (sI U 0 i v) 0 (k + 5) = mI U 0 (k + 5) := fun U i v h => by
        show up2 U.1 0 i v 0 (k + 5) = _
        rw [up2_s, va_up_ne _ _ (by omega)]; rfl
      unfold utx
      rw [e _ _ _ (by omega), e _ _ _ (by omega), e _ _ _ (by omega)]
      rfl
  | 1, _ => exact ⟨rfl, rfl, rfl, rfl⟩
  | 2, _ => exact ⟨rfl, rfl, rfl, rfl⟩
  | n + 3, h => exact absurd h (by omega)
theorem cpU_put {M U : Mem} {t S p n : Nat} (h : p < t) : cpU (put M t S U) p n = cpU M p n := by
  unfold cpU
  rw [(put_outy (M := M) (U := U) (t := t) (S := S) (Or.inl h)).1]
set_option maxRecDepth 50000 in
set_option maxHeartbeats 4000000 in
theorem cX9_init_1 (l : Launch) (w : WX) (t : Nat) (hb : Bel w t) (hz : wz w ≤ t) (hL : Lay w) (d : Nat) (hd0 : Wat w d 9 0) (M : Mem) (htx : txok M d = true) : CtI l w t 9 yX9_init_1 prog_11_method_2_code 2 2 62 2 872 [.ref t, .ref d] (put M t 3 Z0) [(9, 0), (23, 0), (23, 0)] (put M t 3 (txU M d)) := by
  obtain ⟨hN1, hN2, h1, h1', h2, h2', hB⟩ := txok_iff htx
  refine ctI_of (by decide) rfl (Nat.le_of_ble_eq_true rfl) (fun x hl hsz hR hin hx0 hb9 => ?_)
  subst hl
  have hd : ∀ i, DAt (xc x).code (tbX9_init_1[i]?) := fun i => by rw [hb9]; exact dat_of dX9_init_1 i
  have hdt : d < t := hb d hd0.1
  have hd1 : Wat w (d + 1) 23 0 := hL.1 _ _ _ hd0 0 1 23 0 rfl
  have hd2 : Wat w (d + 2) 23 0 := hL.1 _ _ _ hd0 1 2 23 0 rfl
  have hdt1 : d + 1 < t := hb _ hd1.1
  have hdt2 : d + 2 < t := hb _ hd2.1
  have oI : ∀ (U : Mem) (p : Nat), p < t → mI (put M t 3 U) p = mI M p := fun U p hp => (put_outy (Or.inl hp)).1
  have oN : ∀ (U : Mem) (p : Nat), p < t → mN (put M t 3 U) p = mN M p := fun U p hp => (put_outy (Or.inl hp)).2.2.2
  show C (xat x 0 0) (wg w t [(40 + 9, 0)]) (Qi x w t [(9, 0), (23, 0), (23, 0)] (put M t 3 (txU M d)) 2 872) 2 0 [(0, .ref t), (1, .ref d)] [] (put M t 3 Z0) (some ())
  refine r_aload_n (pc' := 1) hx0 (hd 0) rfl 0 rfl rfl ?_
  refine q_objI hx0 (hd 1) mlI_9_3 ob_in ob_cd ⟨Nat.le_of_ble_eq_true rfl, Nat.le_of_ble_eq_true rfl⟩ (Nat.le_of_ble_eq_true rfl) ?_
  refine r_pcA (pc' := 4) rfl ?_
  refine r_aload_n (pc' := 5) hx0 (hd 2) rfl 0 rfl rfl ?_
  refine r_aload_n (pc' := 6) hx0 (hd 3) rfl 1 rfl rfl ?_
  refine r_get (pc' := 9) (v := .ref (d + 1)) hx0 (hd 4) fl_9_9 (wat_old hb hd0) rfl (by decide) rfl ?_
  refine r_aload_n (pc' := 10) hx0 (hd 5) rfl 1 rfl rfl ?_
  refine r_get (pc' := 13) (v := .int (mI M d 2)) hx0 (hd 6) fl_9_18 (wat_old hb hd0) (by show Value.int (mI (put M t 3 Z0) d 2) = _; rw [oI _ _ hdt]) (by decide) rfl ?_
  have hL0 : Lay (wg w t [(40 + 9, 0)]) := hx0.2.2.2.1.2.2.2.1
  refine q_callGS (G := [(40 + 9, 0)]) (o := 1) (K := 0) (N := 0) (As := [.ref (d + 1), .int (mI M d 2)]) (rest := [.ref t]) rfl hb (by decide) (by rw [hsz]; rfl) hx0 (hd 7) mdJ_copyOf mstJ_copyOf mlT_22 (cJ_copyOf (xl x) (wg w t [(40 + 9, 0)]) (t + 1) (bel_wg hb) (Nat.le_trans hz (Nat.le_add_right _ _)) hL0 (d + 1) (wat_old hb hd1) (mI M d 2) 800 (put M t 3 Z0) h1 (by rw [oN _ _ hdt1, hN1]; exact h1') (by rw [oN _ _ hdt1, hN1]; exact Nat.le_refl _) h1') ⟨by decide, by decide⟩ (by rw [hR.1]; decide) (by rw [hR.2]; decide) rfl rfl (Nat.le_of_ble_eq_true rfl) ?_
  have hx1 : Ok _ 2 none _ _ (wg w t [(40 + 9, 0), (23, 0)]) (xat x 1 800) := ok_grow (w' := wg w t [(40 + 9, 0), (23, 0)]) hx0 rfl rfl rfl rfl (lay_wg hL hb (by decide)) (by rw [hR.1]; decide) (by rw [hR.2]; decide)
  show C (xat x 1 800) (wg w t [(40 + 9, 0), (23, 0)]) _ 2 16 [(0, .ref t), (1, .ref d)] [.ref (t + 1), .ref t] (put (put M t 3 Z0) (t + 1) 1 (cpU (put M t 3 Z0) (d + 1) (ix (mI M d 2)))) (some ())
  rw [cpU_put hdt1]
  refine z_post (by decide) ?_
  refine z_putR (pc' := 19) (o := 1) (by decide) hx1 (hd 8) hin fw_9_9 (wat_new (G := [(40 + 9, 0), (23, 0)]) (o := 0) (kd := 40 + 9) (n := 0) (by decide)) rfl (by decide) rfl rfl rfl ?_
  refine r_aload_n (pc' := 20) hx1 (hd 9) rfl 0 rfl rfl ?_
  refine r_aload_n (pc' := 21) hx1 (hd 10) rfl 1 rfl rfl ?_
  refine r_get (pc' := 24) (v := .ref (d + 2)) hx1 (hd 11) fl_9_15 (wat_old hb hd0) rfl (by decide) rfl ?_
  refine r_aload_n (pc' := 25) hx1 (hd 12) rfl 1 rfl rfl ?_
  refine r_get (pc' := 28) (v := .int (mI M d 3)) hx1 (hd 13) fl_9_28 (wat_old hb hd0) (by show Value.int (mI (put M t 3 _) d 3) = _; rw [oI _ _ hdt]) (by decide) rfl ?_
  refine r_bipush (pc' := 30) (v := 6) hx1 (hd 14) (by decide) rfl ?_
  refine r_imul (pc' := 31) hx1 (hd 15) rfl ?_
  have hL1 : Lay (wg w t [(40 + 9, 0), (23, 0)]) := hx1.2.2.2.1.2.2.2.1
  refine q_callGS (G := [(40 + 9, 0), (23, 0)]) (o := 2) (K := 1) (N := 800) (As := [.ref (d + 2), .int (mI M d 3 * 6)]) (rest := [.ref t]) rfl hb (by decide) (by rw [hsz]; rfl) hx1 (hd 16) mdJ_copyOf mstJ_copyOf mlT_22 (cJ_copyOf (xl x) (wg w t [(40 + 9, 0), (23, 0)]) (t + 2) (bel_wg hb) (Nat.le_trans hz (Nat.le_add_right _ _)) hL1 (d + 2) (wat_old hb hd2) (mI M d 3 * 6) 72 _ h2 (by rw [oN _ _ hdt2, hN2]; exact h2') (by rw [oN _ _ hdt2, hN2]; decide) h2') ⟨by decide, by decide⟩ (by rw [hR.1]; decide) (by rw [hR.2]; decide) rfl rfl (Nat.le_of_ble_eq_true rfl) ?_
  have hx2 : Ok _ 2 none _ _ (wg w t [(40 + 9, 0), (23, 0), (23, 0)]) (xat x 2 872) := ok_grow (w' := wg w t [(40 + 9, 0), (23, 0), (23, 0)]) hx1 rfl rfl rfl rfl (lay_wg hL hb (by decide)) (by rw [hR.1]; decide) (by rw [hR.2]; decide)
  show C (xat x 2 872) (wg w t [(40 + 9, 0), (23, 0), (23, 0)]) _ 2 34 [(0, .ref t), (1, .ref d)] [.ref (t + 2), .ref t] (put (put M t 3 (sR (put Z0 1 1 (cpU M (d + 1) (ix (mI M d 2)))) 0 0 (some (t + 1)))) (t + 2) 1 (cpU (put M t 3 (sR (put Z0 1 1 (cpU M (d + 1) (ix (mI M d 2)))) 0 0 (some (t + 1)))) (d + 2) (ix (mI M d 3 * 6)))) (some ())
  rw [cpU_put hdt2]
  refine z_post (by decide) ?_
  refine z_putR (pc' := 37) (o := 2) (by decide) hx2 (hd 17) hin fw_9_15 (wat_new (G := [(40 + 9, 0), (23, 0), (23, 0)]) (o := 0) (kd := 40 + 9) (n := 0) (by decide)) rfl (by decide) rfl rfl rfl ?_
  refine r_aload_n (pc' := 38) hx2 (hd 18) rfl 0 rfl rfl ?_
  refine r_aload_n (pc' := 39) hx2 (hd 19) rfl 1 rfl rfl ?_
  refine r_get (pc' := 42) (v := .int (mI M d 2)) hx2 (hd 20) fl_9_18 (wat_old hb hd0) (by show Value.int (mI (put M t 3 _) d 2) = _; rw [oI _ _ hdt]) (by decide) rfl ?_
  refine z_putI (pc' := 45) (by decide) hx2 (hd 21) hin fw_9_18 (wat_new (G := [(40 + 9, 0), (23, 0), (23, 0)]) (o := 0) (kd := 40 + 9) (n := 0) (by decide)) rfl (by decide) rfl rfl rfl ?_
  refine r_aload_n (pc' := 46) hx2 (hd 22) rfl 0 rfl rfl ?_
  refine r_aload_n (pc' := 47) hx2 (hd 23) rfl 1 rfl rfl ?_
  refine r_get (pc' := 50) (v := .int (mI M d 3)) hx2 (hd 24) fl_9_28 (wat_old hb hd0) (by show Value.int (mI (put M t 3 _) d 3) = _; rw [oI _ _ hdt]) (by decide) rfl ?_
  refine z_putI (pc' := 53) (by decide) hx2 (hd 25) hin fw_9_28 (wat_new (G := [(40 + 9, 0), (23, 0), (23, 0)]) (o := 0) (kd := 40 + 9) (n := 0) (by decide)) rfl (by decide) rfl rfl rfl ?_
  refine r_aload_n (pc' := 54) hx2 (hd 26) rfl 0 rfl rfl ?_
  refine r_aload_n (pc' := 55) hx2 (hd 27) rfl 1 rfl rfl ?_
  refine r_get (pc' := 58) (v := .int (mI M d 4)) hx2 (hd 28) flI_9_31 (wat_old hb hd0) (by show Value.int (mI (put M t 3 _) d 4) = _; rw [oI _ _ hdt]) (by decide) rfl ?_
  refine z_putI (pc' := 61) (by decide) hx2 (hd 29) hin fw_9_31 (wat_new (G := [(40 + 9, 0), (23, 0), (23, 0)]) (o := 0) (kd := 40 + 9) (n := 0) (by decide)) rfl (by decide) (isB_nar hB) (isB_fit hB) rfl ?_
  refine z_done (G := [(40 + 9, 0), (23, 0), (23, 0)]) (G' := [(9, 0), (23, 0), (23, 0)]) (U := utx M t d) (l := [0]) (T := clrR (utx M t d)) (ci := 9) hb rfl rfl (Rny.i (Rny.i (Rny.i (Rny.r (Rny.p (Rny.r (Rny.p Rny.z (fun _ _ => rfl)) (by decide)) (fun _ _ => rfl)) (by decide))))) (by decide) (by decide) (fun o ho H => by
    have e9 : o = 0 := by simpa using ho
    subst e9
    exact va_done (S := 3) (ci := 9) (by decide) (by decide) (fun k hk => by
      match k, hk with
      | 0, _ => exact rfl
      | 1, _ => exact rfl
      | 2, _ => exact trivial
      | 3, _ => exact trivial
      | 4, _ => exact trivial
      | n + 5, h => exact absurd h (by rw [show nf 9 = 5 from rfl]; omega))) rfl ?_
  rw [put_congr utx_eq]
  exact q_vretI (ok_grow (w' := wg w t [(9, 0), (23, 0), (23, 0)]) hx2 rfl rfl rfl rfl (lay_wg hL hb (by decide)) (by rw [hR.1]; decide) (by rw [hR.2]; decide)) (hd 30)
