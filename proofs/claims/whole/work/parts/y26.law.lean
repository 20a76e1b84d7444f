theorem fp_11_190 : FP "CribbageRoom" 190 6 7 .int := ⟨_, _, tyX6, rfl, inX6, by decide, lk_11_190, tyX6_ok, nmX6, rfl, by decide +kernel⟩
theorem lk_11_242 : Cond.fieldLink "CribbageRoom" 242 "CribbageRoom$State" "laws" "[LCribbageRoom$Text;" ∈ UW := uw_in (in_1 _ (List.mem_of_getElem? (i := 111) rfl)) rfl
theorem fl_11_242 : FL "CribbageRoom" 242 6 3 := ⟨_, _, rfl, inX6, by decide, lk_11_242⟩
theorem clG_246 : Cond.classLink "CribbageRoom" 246 "CribbageRoom$Text" ∈ UW := uw_in (in_4 _ (List.mem_of_getElem? (i := 79) rfl)) rfl
theorem mlG_252 : Cond.methodLink "CribbageRoom" 252 yX9_init_1 ∈ UW := uw_in (in_4 _ (List.mem_of_getElem? (i := 80) rfl)) rfl
theorem mdG_init : MD ({ cls := "CribbageRoom$Text", name := "<init>", desc := "(LCribbageRoom$Text;)V" } : Jvm.MethodName) prog_11_method_2_code 2 none 1 := ⟨uw_in (in_4 _ (List.mem_of_getElem? (i := 82) rfl)) rfl, uw_in (in_1 _ (List.mem_of_getElem? (i := 6) rfl)) rfl, by decide, by decide, by decide +kernel⟩
theorem miG_init : Cond.instanceMethod ({ cls := "CribbageRoom$Text", name := "<init>", desc := "(LCribbageRoom$Text;)V" } : Jvm.MethodName) ∈ UW := uw_in (in_4 _ (List.mem_of_getElem? (i := 81) rfl)) rfl
theorem wat_up {w : WX} {a q kd n : Nat} {G : List (Nat × Nat)} (hb : Bel w a) (h : Wat (wg w a []) q kd n) : Wat (wg w a G) q kd n := wat_old hb (by rw [wg_nil] at h; exact h)
section RP
variable {τ : Type} {own : String} {nL fr lo : Nat} {ret : Option FieldType} {w : WX} {x : MX} {Q : τ → State → Prop} {pc pc' : Nat} {L L' : List (Nat × Value)} {rest : List Value} {M M' : Mem} {a : Nat}
theorem q_txinit {d idx : Nat} {f : Mem → Option τ} (hb : Bel w a) (hz : wz w ≤ a) (hL : Lay w) (hs : (xs_ x).heap.size = a) (hx : Ok own nL ret fr lo (wg w a [(40 + 9, 0)]) (xat x 1 5)) (hdg : decode (xc x).code pc = .ok (.invokespecial idx, 3)) (hlk : Cond.methodLink own idx yX9_init_1 ∈ UW) (hd : Wat w d 9 0) (htx : txok M d = true) (hR : 2 + 1 ≤ fr ∧ 8 + (2 + 11) + 62 ≤ lo) (hk : 3 ≤ (xR x).cells) (hsl : 877 ≤ (xR x).slots) (hcat : (rest.map fun v => v.category).sum ≤ 8) (hp : pc + 3 = pc') (kk : ∀ M', C (xat x 3 877) (wg w a [(9, 0), (23, 0), (23, 0)]) Q nL pc' L rest M' (f M')) : C (xat x 1 5) (wg w a [(40 + 9, 0)]) Q nL pc L (.ref d :: .ref a :: rest) (put M a 3 Z0) (nm (put M a 3 (txU M d)) f) := by
  subst hp
  have hb0 : Bel (wg w a []) a := by rw [wg_nil]; exact hb
  exact q_callI (G0 := []) (K := 1) (N := 5) (ci := 9) (o := 0) (As := [.ref d]) (rest := rest) (Gc := [(9, 0), (23, 0), (23, 0)]) (Mc := put M a 3 (txU M d)) rfl hb (by rw [hs]; rfl) hx hdg mdG_init rfl miG_init hlk (cX9_init_1 (xl x) (wg w a []) a hb0 hz (lay_wg hL hb (by decide)) d (wat_old hb hd) M htx) hR hk hsl rfl rfl hcat (kk _)
end RP
abbrev yX11_law : MethodName := ({ cls := "CribbageRoom", name := "law", desc := "()I" } : Jvm.MethodName)
def tbX11_law : List (Nat × Instr × Nat) := [(0, .aload_n 0, 1), (1, .getfield 12, 3), (4, .getfield 190, 3), (7, .bipush 6, 2), (9, .if_icmp .lt 18, 3), (12, .aload_n 0, 1), (13, .getfield 43, 3), (16, .iconst 0, 1), (17, .putfield 196, 3), (20, .aload_n 0, 1), (21, .bipush (-5), 2), (23, .invokevirtual 211, 3), (26, .ireturn, 1), (27, .aload_n 0, 1), (28, .getfield 43, 3), (31, .iconst 1, 1), (32, .invokevirtual 238, 3), (35, .ifCond .ne 10, 3), (38, .aload_n 0, 1), (39, .bipush (-6), 2), (41, .invokevirtual 211, 3), (44, .ireturn, 1), (45, .aload_n 0, 1), (46, .getfield 12, 3), (49, .getfield 242, 3), (52, .aload_n 0, 1), (53, .getfield 12, 3), (56, .getfield 190, 3), (59, .new 246, 3), (62, .dup, 1), (63, .aload_n 0, 1), (64, .getfield 43, 3), (67, .getfield 248, 3), (70, .invokespecial 252, 3), (73, .aastore, 1), (74, .aload_n 0, 1), (75, .getfield 12, 3), (78, .dup, 1), (79, .getfield 190, 3), (82, .iconst 1, 1), (83, .iadd, 1), (84, .putfield 190, 3), (87, .aload_n 0, 1), (88, .aload_n 0, 1), (89, .getfield 12, 3), (92, .getfield 190, 3), (95, .iconst 1, 1), (96, .isub, 1), (97, .invokevirtual 221, 3), (100, .ireturn, 1)]
theorem dX11_law : ∀ q ∈ tbX11_law, decode prog_1_method_11_code q.1 = .ok q.2 := by decide +kernel
set_option maxRecDepth 20000 in
theorem cX11_law (l : Launch) (w : WX) (a : Nat) (hb : Bel w a) (hz0 : wz w ≤ a) (hL : Lay w) (t : Nat) (ht : Wat w t 11 0) (M : Mem) : CtG l w a yX11_law prog_1_method_11_code 1 (Option.some FieldType.int) 1133 28088 3 877 evIG egM emG [.ref t] M (FX11_law t a M) := by
  refine ctG_of (by decide) (Nat.le_of_ble_eq_true rfl) (fun x hl hsz hR hx hb9 => ?_)
  subst hl
  have hd : ∀ i, DAt (xc x).code (tbX11_law[i]?) := fun i => by rw [hb9]; exact dat_of dX11_law i
  have hL0 := hL
  have ht0 := ht
  have hL : Lay (wg w a []) := lay_wg hL hb (by decide)
  have ht : Wat (wg w a []) t 11 0 := wat_old hb ht
  show C (xat x 0 0) (wg w a []) (Qg x w a 3 877 evIG egM emG) 1 0 [(0, .ref t)] [] M (FX11_law t a M)
  unfold FX11_law
  refine r_aload_n (pc' := 1) hx (hd 0) rfl 0 rfl rfl ?_
  refine r_get (pc' := 4) (v := .ref (t + 1)) hx (hd 1) fl_11_12 ht rfl (by decide) rfl ?_
  have h1 := hL.1 _ _ _ ht 0 1 6 0 rfl
  refine r_get (pc' := 7) (v := .int (mI M (t + 1) 7)) hx (hd 2) fl_11_190 h1 rfl (by decide) rfl ?_
  refine r_bipush (pc' := 9) (v := 6) hx (hd 3) (by decide) rfl ?_
  refine r_icmp_lt (tgt := 27) (pc' := 12) hx (hd 4) (by decide) (fun _ => ?_) rfl (fun _ => ?_)
  · skip
    refine r_aload_n (pc' := 28) hx (hd 13) rfl 0 rfl rfl ?_
    refine r_get (pc' := 31) (v := .ref (t + 171)) hx (hd 14) fl_11_43 ht rfl (by decide) rfl ?_
    have h2 := hL.1 _ _ _ ht 6 171 5 0 rfl
    refine r_iconst (pc' := 32) (v := 1) hx (hd 15) (by decide) rfl ?_
    refine r_callVI (pc' := 35) (As := [.int 1]) (rest := []) hx (hd 16) md_X5_readText mi_X5_readText ms_X5_readText ml_11_238 (cX5_readText (xl x) _ hL (t + 171) h2 1 M) h2 rfl (by decide) ⟨Nat.le_of_ble_eq_true rfl, Nat.le_of_ble_eq_true rfl⟩ rfl rfl (Nat.le_of_ble_eq_true rfl) (fun r4 => .int r4 :: []) (fun _ => rfl) rfl (fun r4 M3 => ?_)
    refine r_if_ne (tgt := 45) (pc' := 38) hx (hd 17) (by decide) (fun _ => ?_) rfl (fun _ => ?_)
    · skip
      refine r_aload_n (pc' := 46) hx (hd 22) rfl 0 rfl rfl ?_
      refine r_get (pc' := 49) (v := .ref (t + 1)) hx (hd 23) fl_11_12 ht rfl (by decide) rfl ?_
      have h5 := hL.1 _ _ _ ht 0 1 6 0 rfl
      refine r_get (pc' := 52) (v := .ref ((t + 1) + 7)) hx (hd 24) fl_11_242 h5 rfl (by decide) rfl ?_
      have h6 := hL.1 _ _ _ h5 3 7 36 6 rfl
      refine r_aload_n (pc' := 53) hx (hd 25) rfl 0 rfl rfl ?_
      refine r_get (pc' := 56) (v := .ref (t + 1)) hx (hd 26) fl_11_12 ht rfl (by decide) rfl ?_
      have h7 := hL.1 _ _ _ ht 0 1 6 0 rfl
      refine r_get (pc' := 59) (v := .int (mI M3 (t + 1) 7)) hx (hd 27) fl_11_190 h7 rfl (by decide) rfl ?_
      refine q_free (M' := put M3 a 3 Z0) (put_free (by rw [wg_nil]; exact hb)) ?_
      refine q_newO (G := []) (K := 0) (N := 0) (ci := 9) (o := 0) tyX9 rfl hb hz0 (Or.inr rfl) (by rw [hsz]; rfl) hx (hd 28) rfl inX9 tyX9_ok clG_246 ins_9 ini_9 (by decide) (by rw [hR.1]; decide) (by rw [hR.2]; decide) ((put_at (by decide)).1.trans rfl) ((put_at (by decide)).2.1.trans rfl) ((put_at (by decide)).2.2.1.trans rfl) dvX9 ?_
      refine r_pcA (pc' := 62) rfl ?_
      have hx : Ok _ 1 _ _ _ (wg w a [(40 + 9, 0)]) (xat x 1 5) := ok_grow (w' := wg w a [(40 + 9, 0)]) hx rfl rfl rfl rfl (lay_wg hL0 hb (by decide)) (by rw [hR.1]; decide) (by rw [hR.2]; decide)
      have hL : Lay (wg w a [(40 + 9, 0)]) := lay_wg hL0 hb (by decide)
      have ht : Wat (wg w a [(40 + 9, 0)]) t 11 0 := wat_old hb ht0
      refine r_dup (pc' := 63) hx (hd 29) rfl rfl ?_
      refine r_aload_n (pc' := 64) hx (hd 30) rfl 0 rfl rfl ?_
      refine r_get (pc' := 67) (v := .ref (t + 171)) hx (hd 31) fl_11_43 ht rfl (by decide) rfl ?_
      have h8 := hL.1 _ _ _ ht 6 171 5 0 rfl
      refine r_get (pc' := 70) (v := .ref ((t + 171) + 2)) hx (hd 32) fl_11_248 h8 rfl (by decide) rfl ?_
      have h9 := hL.1 _ _ _ h8 1 2 9 0 rfl
      refine r_gd (fun h11 => ?_)
      refine q_txinit (pc' := 73) hb hz0 hL0 hsz hx (hd 33) mlG_252 (hL0.1 _ _ _ (hL0.1 _ _ _ ht0 6 171 5 0 rfl) 1 2 9 0 rfl) h11 ⟨Nat.le_of_ble_eq_true rfl, Nat.le_of_ble_eq_true rfl⟩ (by rw [hR.1]; decide) (by rw [hR.2]; decide) (Nat.le_of_ble_eq_true rfl) rfl (fun M10 => ?_)
      have hx : Ok _ 1 _ _ _ (wg w a [(9, 0), (23, 0), (23, 0)]) (xat x 3 877) := ok_grow (w' := wg w a [(9, 0), (23, 0), (23, 0)]) hx rfl rfl rfl rfl (lay_wg hL0 hb (by decide)) (by rw [hR.1]; decide) (by rw [hR.2]; decide)
      have hL : Lay (wg w a [(9, 0), (23, 0), (23, 0)]) := lay_wg hL0 hb (by decide)
      have ht : Wat (wg w a [(9, 0), (23, 0), (23, 0)]) t 11 0 := wat_old hb ht0
      have hnew : Wat (wg w a [(9, 0), (23, 0), (23, 0)]) a 9 0 := wat_new (o := 0) (by decide)
      have h6 := wat_up (G := [(9, 0), (23, 0), (23, 0)]) hb h6
      refine r_gd (fun h13 => ?_)
      refine r_aastT (pc' := 74) (k := ix (mI M3 (t + 1) 7)) (v := (some a)) hx (hd 34) h6 h13 rfl (fun b hb => by cases hb; exact hnew) rfl (fun M12 => ?_)
      refine r_aload_n (pc' := 75) hx (hd 35) rfl 0 rfl rfl ?_
      refine r_get (pc' := 78) (v := .ref (t + 1)) hx (hd 36) fl_11_12 ht rfl (by decide) rfl ?_
      have h14 := hL.1 _ _ _ ht 0 1 6 0 rfl
      refine r_dup (pc' := 79) hx (hd 37) rfl rfl ?_
      refine r_get (pc' := 82) (v := .int (mI M12 (t + 1) 7)) hx (hd 38) fl_11_190 h14 rfl (by decide) rfl ?_
      refine r_iconst (pc' := 83) (v := 1) hx (hd 39) (by decide) rfl ?_
      refine r_iadd (pc' := 84) hx (hd 40) rfl ?_
      refine r_putI (pc' := 87) hx (hd 41) fp_11_190 h14 rfl (by decide) rfl (fun M15 => ?_)
      refine r_aload_n (pc' := 88) hx (hd 42) rfl 0 rfl rfl ?_
      refine r_aload_n (pc' := 89) hx (hd 43) rfl 0 rfl rfl ?_
      refine r_get (pc' := 92) (v := .ref (t + 1)) hx (hd 44) fl_11_12 ht rfl (by decide) rfl ?_
      have h16 := hL.1 _ _ _ ht 0 1 6 0 rfl
      refine r_get (pc' := 95) (v := .int (mI M15 (t + 1) 7)) hx (hd 45) fl_11_190 h16 rfl (by decide) rfl ?_
      refine r_iconst (pc' := 96) (v := 1) hx (hd 46) (by decide) rfl ?_
      refine r_isub (pc' := 97) hx (hd 47) rfl ?_
      refine r_callVI (pc' := 100) (As := [.int ((mI M15 (t + 1) 7) - 1)]) (rest := []) hx (hd 48) md_X11_grant mi_X11_grant ms_X11_grant ml_11_221 (cX11_grant (xl x) _ hL t ht ((mI M15 (t + 1) 7) - 1) M15) ht rfl (by decide) ⟨Nat.le_of_ble_eq_true rfl, Nat.le_of_ble_eq_true rfl⟩ rfl rfl (Nat.le_of_ble_eq_true rfl) (fun r18 => .int r18 :: []) (fun _ => rfl) rfl (fun r18 M17 => ?_)
      exact q_iretG hx (hd 49) rfl rfl rfl (Nat.le_of_ble_eq_true rfl) (Nat.le_of_ble_eq_true rfl)
    · skip
      refine r_aload_n (pc' := 39) hx (hd 18) rfl 0 rfl rfl ?_
      refine r_bipush (pc' := 41) (v := (-6)) hx (hd 19) (by decide) rfl ?_
      refine r_callVI (pc' := 44) (As := [.int (-6)]) (rest := []) hx (hd 20) md_X11_refuse mi_X11_refuse ms_X11_refuse ml_11_211 (cX11_refuse (xl x) _ hL t ht (-6) M3) ht rfl (by decide) ⟨Nat.le_of_ble_eq_true rfl, Nat.le_of_ble_eq_true rfl⟩ rfl rfl (Nat.le_of_ble_eq_true rfl) (fun r20 => .int r20 :: []) (fun _ => rfl) rfl (fun r20 M19 => ?_)
      exact q_iretG hx (hd 21) rfl rfl rfl (Nat.le_of_ble_eq_true rfl) (Nat.le_of_ble_eq_true rfl)
  · skip
    refine r_aload_n (pc' := 13) hx (hd 5) rfl 0 rfl rfl ?_
    refine r_get (pc' := 16) (v := .ref (t + 171)) hx (hd 6) fl_11_43 ht rfl (by decide) rfl ?_
    have h21 := hL.1 _ _ _ ht 6 171 5 0 rfl
    refine r_iconst (pc' := 17) (v := 0) hx (hd 7) (by decide) rfl ?_
    refine r_putI (pc' := 20) hx (hd 8) fp_11_196 h21 rfl (by decide) rfl (fun M22 => ?_)
    refine r_aload_n (pc' := 21) hx (hd 9) rfl 0 rfl rfl ?_
    refine r_bipush (pc' := 23) (v := (-5)) hx (hd 10) (by decide) rfl ?_
    refine r_callVI (pc' := 26) (As := [.int (-5)]) (rest := []) hx (hd 11) md_X11_refuse mi_X11_refuse ms_X11_refuse ml_11_211 (cX11_refuse (xl x) _ hL t ht (-5) M22) ht rfl (by decide) ⟨Nat.le_of_ble_eq_true rfl, Nat.le_of_ble_eq_true rfl⟩ rfl rfl (Nat.le_of_ble_eq_true rfl) (fun r24 => .int r24 :: []) (fun _ => rfl) rfl (fun r24 M23 => ?_)
    exact q_iretG hx (hd 12) rfl rfl rfl (Nat.le_of_ble_eq_true rfl) (Nat.le_of_ble_eq_true rfl)
