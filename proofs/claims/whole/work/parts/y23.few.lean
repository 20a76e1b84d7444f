theorem kc_11_362 : Cond.constantLong "CribbageRoom" 362 1000000000000 ∈ UW := uw_in (in_6 _ (List.mem_of_getElem? (i := 6) rfl)) rfl
theorem kc_11_364 : Cond.constantLong "CribbageRoom" 364 10 ∈ UW := uw_in (in_6 _ (List.mem_of_getElem? (i := 7) rfl)) rfl
section RH
variable {τ : Type} {own : String} {nL fr lo : Nat} {ret : Option FieldType} {w : WX} {x : MX} {Q : τ → State → Prop} {pc pc' : Nat} {L L' : List (Nat × Value)} {rest : List Value} {M M' : Mem} {a : Nat}
theorem q_newJ {n : Nat} {n1 : Int32} {f : Mem → Option τ} (hb : Bel w a) (hz : wz w ≤ a) (hs : (xs_ x).heap.size = a) (hx : Ok own nL ret fr lo (wg w a []) (xat x 0 0)) (hdg : decode (xc x).code pc = .ok (.newarray .long, 2)) (hn : ¬ n1 < 0) (hN : n1.toNatClampNeg = n) (hby : n * 8 ≤ 536870912) (hk : 1 ≤ (xR x).cells) (hsl : n ≤ (xR x).slots) (hp : pc + 2 = pc') (kk : ∀ M', C (xat x 1 n) (wg w a [(21, n)]) Q nL pc' L (.ref a :: rest) M' (f M')) : C (xat x 0 0) (wg w a []) Q nL pc L (.int n1 :: rest) M (nm (put M a 1 Z0) f) := by
  subst hp
  have hb0 : Bel (wg w a []) a := by rw [wg_nil]; exact hb
  refine q_free (put_free (t := a) (S := 1) (U := Z0) hb0) ?_
  have kk1 := kk (put M a 1 Z0)
  have e : C (xat x (0 + 1) (0 + n)) (wg w a ([] ++ [(21, n)])) Q nL (pc + 2) L (.ref (a + 0) :: rest) (put M a 1 Z0) (f (put M a 1 Z0)) := by
    rw [show 0 + n = n from Nat.zero_add n]; exact kk1
  exact q_newa (gn := n) (G := []) (K := 0) (N := 0) (kd := 21) (c := 1) (n := n) (o := 0) (ty := .long) (e9 := .inr (.inl (fun _ => 0))) rfl hb hz (Or.inr rfl) (by rw [hs]; rfl) hx hdg rfl ar_long rfl (fun _ _ h => h) hn hN hby hk (by rw [Nat.zero_add]; exact hsl) (fun _ => rfl) (ce_long (G := []) (S := 1) (by decide) rfl) (nr_put (by decide) rfl) e
end RH
abbrev yX11_few : MethodName := ({ cls := "CribbageRoom", name := "few", desc := "(II)J" } : Jvm.MethodName)
def tbX11_few : List (Nat × Instr × Nat) := [(0, .iload_n 1, 1), (1, .iconst 1, 1), (2, .if_icmp .lt 19, 3), (5, .iload_n 1, 1), (6, .bipush 20, 2), (8, .if_icmp .gt 13, 3), (11, .iload_n 2, 1), (12, .ifCond .lt 9, 3), (15, .iload_n 2, 1), (16, .bipush 99, 2), (18, .if_icmp .le 7, 3), (21, .ldc2_w 157, 3), (24, .lreturn, 1), (25, .aload_n 0, 1), (26, .getfield 12, 3), (29, .iconst 1, 1), (30, .invokevirtual 199, 3), (33, .istore_n 3, 1), (34, .bipush 20, 2), (36, .newarray .long, 2), (38, .astore 4, 2), (40, .aload 4, 2), (42, .iconst 0, 1), (43, .ldc2_w 362, 3), (46, .lastore, 1), (47, .iconst 0, 1), (48, .istore 5, 2), (50, .iload 5, 2), (52, .iload_n 2, 1), (53, .if_icmp .ge 73, 3), (56, .iload_n 1, 1), (57, .iconst 1, 1), (58, .isub, 1), (59, .istore 6, 2), (61, .iload 6, 2), (63, .ifCond .lt 57, 3), (66, .iload 6, 2), (68, .ifCond .ne 7, 3), (71, .lconst 0, 1), (72, .goto 17, 3), (75, .aload 4, 2), (77, .iload 6, 2), (79, .iconst 1, 1), (80, .isub, 1), (81, .laload, 1), (82, .iload_n 3, 1), (83, .i2l, 1), (84, .lmul, 1), (85, .ldc2_w 364, 3), (88, .ldiv, 1), (89, .lstore 7, 2), (91, .aload 4, 2), (93, .iload 6, 2), (95, .aload 4, 2), (97, .iload 6, 2), (99, .laload, 1), (100, .bipush 10, 2), (102, .iload_n 3, 1), (103, .isub, 1), (104, .i2l, 1), (105, .lmul, 1), (106, .ldc2_w 364, 3), (109, .ldiv, 1), (110, .lload 7, 2), (112, .ladd, 1), (113, .lastore, 1), (114, .iinc 6 (-1), 3), (117, .goto (-56), 3), (120, .iinc 5 1, 3), (123, .goto (-73), 3), (126, .lconst 0, 1), (127, .lstore 5, 2), (129, .iconst 0, 1), (130, .istore 7, 2), (132, .iload 7, 2), (134, .iload_n 1, 1), (135, .if_icmp .ge 19, 3), (138, .lload 5, 2), (140, .aload 4, 2), (142, .iload 7, 2), (144, .laload, 1), (145, .ladd, 1), (146, .lstore 5, 2), (148, .iinc 7 1, 3), (151, .goto (-19), 3), (154, .lload 5, 2), (156, .lreturn, 1)]
theorem dX11_few : ∀ q ∈ tbX11_few, decode prog_1_method_33_code q.1 = .ok q.2 := by decide +kernel
set_option maxRecDepth 20000 in
theorem cX11_few (l : Launch) (w : WX) (a : Nat) (hb : Bel w a) (hz0 : wz w ≤ a) (hL : Lay w) (t : Nat) (ht : Wat w t 11 0) (p1 : Int32) (p2 : Int32) (M : Mem) : CtG l w a yX11_few prog_1_method_33_code 9 (Option.some FieldType.long) 1 21 1 20 evJG egM emG [.ref t, .int p1, .int p2] M (FX11_few t p1 p2 a M) := by
  refine ctG_of (by decide) (Nat.le_of_ble_eq_true rfl) (fun x hl hsz hR hx hb9 => ?_)
  subst hl
  have hd : ∀ i, DAt (xc x).code (tbX11_few[i]?) := fun i => by rw [hb9]; exact dat_of dX11_few i
  have hL0 := hL
  have ht0 := ht
  have hL : Lay (wg w a []) := lay_wg hL hb (by decide)
  have ht : Wat (wg w a []) t 11 0 := wat_old hb ht
  show C (xat x 0 0) (wg w a []) (Qg x w a 1 20 evJG egM emG) 9 0 [(0, .ref t), (1, .int p1), (2, .int p2)] [] M (FX11_few t p1 p2 a M)
  unfold FX11_few
  refine r_iload_n (pc' := 1) hx (hd 0) rfl 1 rfl rfl ?_
  refine r_iconst (pc' := 2) (v := 1) hx (hd 1) (by decide) rfl ?_
  refine r_jn0 21 ([]) ([]) (M) (?_) (fun j1 hj2 => ?_)
  · skip
    refine r_ldc2 (pc' := 24) hx (hd 11) kc_11_157 rfl ?_
    exact q_lretG hx (hd 12) rfl rfl rfl (Nat.le_of_ble_eq_true rfl) (Nat.le_of_ble_eq_true rfl)
  refine r_icmp_lt (tgt := 21) (pc' := 5) hx (hd 2) (by decide) (fun _ => ?_) rfl (fun _ => ?_)
  · skip
    refine r_sub [] rfl ?_
    exact hj2
  · skip
    refine r_iload_n (pc' := 6) hx (hd 3) rfl 1 rfl rfl ?_
    refine r_bipush (pc' := 8) (v := 20) hx (hd 4) (by decide) rfl ?_
    refine r_icmp_gt (tgt := 21) (pc' := 11) hx (hd 5) (by decide) (fun _ => ?_) rfl (fun _ => ?_)
    · skip
      refine r_sub [] rfl ?_
      exact hj2
    · skip
      refine r_iload_n (pc' := 12) hx (hd 6) rfl 2 rfl rfl ?_
      refine r_if_lt (tgt := 21) (pc' := 15) hx (hd 7) (by decide) (fun _ => ?_) rfl (fun _ => ?_)
      · skip
        refine r_sub [] rfl ?_
        exact hj2
      · skip
        refine r_iload_n (pc' := 16) hx (hd 8) rfl 2 rfl rfl ?_
        refine r_bipush (pc' := 18) (v := 99) hx (hd 9) (by decide) rfl ?_
        refine r_icmp_le (tgt := 25) (pc' := 21) hx (hd 10) (by decide) (fun _ => ?_) rfl (fun _ => ?_)
        · skip
          refine r_aload_n (pc' := 26) hx (hd 13) rfl 0 rfl rfl ?_
          refine r_get (pc' := 29) (v := .ref (t + 1)) hx (hd 14) fl_11_12 ht rfl (by decide) rfl ?_
          have h3 := hL.1 _ _ _ ht 0 1 6 0 rfl
          refine r_iconst (pc' := 30) (v := 1) hx (hd 15) (by decide) rfl ?_
          refine r_callV (pc' := 33) (As := [.int 1]) (rest := []) hx (hd 16) md_X6_term mi_X6_term ms_X6_term ml_11_199 (cX6_term (xl x) _ hL (t + 1) h3 1 M) h3 rfl (by decide) ⟨Nat.le_of_ble_eq_true rfl, Nat.le_of_ble_eq_true rfl⟩ rfl rfl (Nat.le_of_ble_eq_true rfl) (fun r4 => .int r4 :: []) (fun _ => M) (fun _ => ⟨rfl, rfl⟩) rfl (fun r4 _ => ?_)
          refine r_istore_n (pc' := 34) (L' := [(3, .int r4), (0, .ref t), (1, .int p1), (2, .int p2)]) hx (hd 17) rfl (by decide) rfl rfl ?_
          refine r_bipush (pc' := 36) (v := 20) hx (hd 18) (by decide) rfl ?_
          refine q_newJ (n := 20) (pc' := 38) hb hz0 hsz hx (hd 19) (by decide) (by decide) (by decide) (by rw [hR.1]; decide) (by rw [hR.2]; decide) rfl (fun M5 => ?_)
          have hx : Ok _ 9 _ _ _ (wg w a [(21, 20)]) (xat x 1 20) := ok_grow (w' := wg w a [(21, 20)]) hx rfl rfl rfl rfl (lay_wg hL0 hb (by decide)) (by rw [hR.1]; decide) (by rw [hR.2]; decide)
          have hL : Lay (wg w a [(21, 20)]) := lay_wg hL0 hb (by decide)
          have ht : Wat (wg w a [(21, 20)]) t 11 0 := wat_old hb ht0
          have harr : Wat (wg w a [(21, 20)]) a 21 20 := wat_new (o := 0) (by decide)
          refine r_astore (pc' := 40) (L' := [(4, .ref a), (3, .int r4), (0, .ref t), (1, .int p1), (2, .int p2)]) hx (hd 20) (by decide) rfl rfl ?_
          refine r_aload (pc' := 42) hx (hd 21) 0 rfl rfl ?_
          refine r_iconst (pc' := 43) (v := 0) hx (hd 22) (by decide) rfl ?_
          refine r_ldc2 (pc' := 46) hx (hd 23) kc_11_362 rfl ?_
          refine r_last (pc' := 47) (k := 0) hx (hd 24) harr (by decide) (by decide) rfl (fun M6 => ?_)
          refine r_iconst (pc' := 48) (v := 0) hx (hd 25) (by decide) rfl ?_
          refine r_istore (pc' := 50) (L' := [(5, .int 0), (4, .ref a), (3, .int r4), (0, .ref t), (1, .int p1), (2, .int p2)]) hx (hd 26) (by decide) rfl rfl ?_
          refine r_sub [4, 5, 2, 1, 0] rfl ?_
          refine r_wl2 (fun v7 M8 => [(1, .int p1), (2, .int p2), (3, .int r4), (4, .ref a), (5, .int v7)]) (fun v7 M8 => []) (fun v7 M8 => M8) (fun v7 M8 rec9 ih10 => ?_) fuel 0 M6
          refine r_iload (pc' := 52) hx (hd 27) 4 rfl rfl ?_
          refine r_iload_n (pc' := 53) hx (hd 28) rfl 1 rfl rfl ?_
          refine r_icmp_ge (tgt := 126) (pc' := 56) hx (hd 29) (by decide) (fun _ => ?_) rfl (fun _ => ?_)
          · skip
            refine r_lconst (pc' := 127) (v := 0) hx (hd 70) (by decide) rfl ?_
            refine r_lstore (pc' := 129) (L' := [(5, .long 0), (1, .int p1), (2, .int p2), (3, .int r4), (4, .ref a)]) hx (hd 71) (by decide) rfl rfl ?_
            refine r_iconst (pc' := 130) (v := 0) hx (hd 72) (by decide) rfl ?_
            refine r_istore (pc' := 132) (L' := [(7, .int 0), (5, .long 0), (1, .int p1), (2, .int p2), (3, .int r4), (4, .ref a)]) hx (hd 73) (by decide) rfl rfl ?_
            refine r_sub [2, 5, 1, 0] rfl ?_
            refine r_wl2 (fun v11 v12 => [(1, .int p1), (4, .ref a), (5, .long v11), (7, .int v12)]) (fun v11 v12 => []) (fun v11 v12 => M8) (fun v11 v12 rec13 ih14 => ?_) fuel 0 0
            refine r_iload (pc' := 134) hx (hd 74) 3 rfl rfl ?_
            refine r_iload_n (pc' := 135) hx (hd 75) rfl 0 rfl rfl ?_
            refine r_icmp_ge (tgt := 154) (pc' := 138) hx (hd 76) (by decide) (fun _ => ?_) rfl (fun _ => ?_)
            · skip
              refine r_lload (pc' := 156) hx (hd 85) 2 rfl rfl ?_
              exact q_lretG hx (hd 86) rfl rfl rfl (Nat.le_of_ble_eq_true rfl) (Nat.le_of_ble_eq_true rfl)
            · skip
              refine r_lload (pc' := 140) hx (hd 77) 2 rfl rfl ?_
              refine r_aload (pc' := 142) hx (hd 78) 1 rfl rfl ?_
              refine r_iload (pc' := 144) hx (hd 79) 3 rfl rfl ?_
              refine r_gd (fun h15 => ?_)
              refine r_lald (pc' := 145) (k := ix v12) hx (hd 80) harr h15 rfl rfl ?_
              refine r_ladd (pc' := 146) hx (hd 81) rfl ?_
              refine r_nmJ (fun v16 => ?_)
              refine r_lstore (pc' := 148) (L' := [(5, .long v16), (1, .int p1), (4, .ref a), (7, .int v12)]) hx (hd 82) (by decide) rfl rfl ?_
              refine r_iinc (pc' := 151) (v := 1) hx (hd 83) 3 rfl (by decide) (by decide) (fun v17 => [(7, .int v17), (5, .long v16), (1, .int p1), (4, .ref a)]) (fun _ => rfl) rfl (fun v17 => ?_)
              refine r_goto (tgt := 132) hx (hd 84) (by decide) ?_
              refine r_sub [2, 3, 1, 0] rfl ?_
              exact ih14 v16 v17
          · skip
            refine r_iload_n (pc' := 57) hx (hd 30) rfl 0 rfl rfl ?_
            refine r_iconst (pc' := 58) (v := 1) hx (hd 31) (by decide) rfl ?_
            refine r_isub (pc' := 59) hx (hd 32) rfl ?_
            refine r_nmI (fun v18 => ?_)
            refine r_istore (pc' := 61) (L' := [(6, .int v18), (1, .int p1), (2, .int p2), (3, .int r4), (4, .ref a), (5, .int v7)]) hx (hd 33) (by decide) rfl rfl ?_
            refine r_sub [1, 2, 3, 4, 5, 0] rfl ?_
            refine r_wl2 (fun v19 M20 => [(1, .int p1), (2, .int p2), (3, .int r4), (4, .ref a), (5, .int v7), (6, .int v19)]) (fun v19 M20 => []) (fun v19 M20 => M20) (fun v19 M20 rec21 ih22 => ?_) fuel v18 M8
            refine r_iload (pc' := 63) hx (hd 34) 5 rfl rfl ?_
            refine r_if_lt (tgt := 120) (pc' := 66) hx (hd 35) (by decide) (fun _ => ?_) rfl (fun _ => ?_)
            · skip
              refine r_iinc (pc' := 123) (v := 1) hx (hd 68) 4 rfl (by decide) (by decide) (fun v23 => [(5, .int v23), (1, .int p1), (2, .int p2), (3, .int r4), (4, .ref a), (6, .int v19)]) (fun _ => rfl) rfl (fun v23 => ?_)
              refine r_goto (tgt := 50) hx (hd 69) (by decide) ?_
              refine r_sub [1, 2, 3, 4, 0] rfl ?_
              exact ih10 v23 M20
            · skip
              refine r_iload (pc' := 68) hx (hd 36) 5 rfl rfl ?_
              refine r_jn1 89 (fun v24 => [(1, .int p1), (2, .int p2), (3, .int r4), (4, .ref a), (5, .int v7), (6, .int v19)]) (fun v24 => [.long v24]) (fun v24 => M20) (fun v24 => ?_) (fun j25 hj26 => ?_)
              · skip
                refine r_lstore (pc' := 91) (L' := [(7, .long v24), (1, .int p1), (2, .int p2), (3, .int r4), (4, .ref a), (5, .int v7), (6, .int v19)]) hx (hd 50) (by decide) rfl rfl ?_
                refine r_aload (pc' := 93) hx (hd 51) 4 rfl rfl ?_
                refine r_iload (pc' := 95) hx (hd 52) 6 rfl rfl ?_
                refine r_aload (pc' := 97) hx (hd 53) 4 rfl rfl ?_
                refine r_iload (pc' := 99) hx (hd 54) 6 rfl rfl ?_
                refine r_gd (fun h27 => ?_)
                refine r_lald (pc' := 100) (k := ix v19) hx (hd 55) harr h27 rfl rfl ?_
                refine r_bipush (pc' := 102) (v := 10) hx (hd 56) (by decide) rfl ?_
                refine r_iload_n (pc' := 103) hx (hd 57) rfl 3 rfl rfl ?_
                refine r_isub (pc' := 104) hx (hd 58) rfl ?_
                refine r_i2l (pc' := 105) hx (hd 59) rfl ?_
                refine r_lmul (pc' := 106) hx (hd 60) rfl ?_
                refine r_ldc2 (pc' := 109) hx (hd 61) kc_11_364 rfl ?_
                refine r_ldiv (pc' := 110) hx (hd 62) (by decide) rfl ?_
                refine r_lload (pc' := 112) hx (hd 63) 0 rfl rfl ?_
                refine r_ladd (pc' := 113) hx (hd 64) rfl ?_
                refine r_gd (fun h29 => ?_)
                refine r_last (pc' := 114) (k := ix v19) hx (hd 65) harr h29 rfl rfl (fun M28 => ?_)
                refine r_iinc (pc' := 117) (v := (-1)) hx (hd 66) 6 rfl (by decide) (by decide) (fun v30 => [(6, .int v30), (7, .long v24), (1, .int p1), (2, .int p2), (3, .int r4), (4, .ref a), (5, .int v7)]) (fun _ => rfl) rfl (fun v30 => ?_)
                refine r_goto (tgt := 61) hx (hd 67) (by decide) ?_
                refine r_sub [2, 3, 4, 5, 6, 0] rfl ?_
                exact ih22 v30 M28
              refine r_if_ne (tgt := 75) (pc' := 71) hx (hd 37) (by decide) (fun _ => ?_) rfl (fun _ => ?_)
              · skip
                refine r_aload (pc' := 77) hx (hd 40) 3 rfl rfl ?_
                refine r_iload (pc' := 79) hx (hd 41) 5 rfl rfl ?_
                refine r_iconst (pc' := 80) (v := 1) hx (hd 42) (by decide) rfl ?_
                refine r_isub (pc' := 81) hx (hd 43) rfl ?_
                refine r_gd (fun h31 => ?_)
                refine r_lald (pc' := 82) (k := ix (v19 - 1)) hx (hd 44) harr h31 rfl rfl ?_
                refine r_iload_n (pc' := 83) hx (hd 45) rfl 2 rfl rfl ?_
                refine r_i2l (pc' := 84) hx (hd 46) rfl ?_
                refine r_lmul (pc' := 85) hx (hd 47) rfl ?_
                refine r_ldc2 (pc' := 88) hx (hd 48) kc_11_364 rfl ?_
                refine r_ldiv (pc' := 89) hx (hd 49) (by decide) rfl ?_
                exact hj26 (((mJ M20 a (ix (v19 - 1))) * (r4.toInt64)) / 10)
              · skip
                refine r_lconst (pc' := 72) (v := 0) hx (hd 38) (by decide) rfl ?_
                refine r_goto (tgt := 89) hx (hd 39) (by decide) ?_
                exact hj26 0
        · skip
          refine r_sub [] rfl ?_
          exact hj2
