abbrev yX10_countOf : MethodName := ({ cls := "CribbageRoom$Worth", name := "countOf", desc := "(III)I" } : Jvm.MethodName)
def tbX10_countOf : List (Nat × Instr × Nat) := [(0, .iload_n 1, 1), (1, .ifCond .lt 28, 3), (4, .iload_n 1, 1), (5, .bipush 6, 2), (7, .if_icmp .ge 22, 3), (10, .iload_n 2, 1), (11, .ifCond .lt 18, 3), (14, .iload_n 2, 1), (15, .iconst 3, 1), (16, .if_icmp .ge 13, 3), (19, .iload_n 3, 1), (20, .ifCond .lt 9, 3), (23, .iload_n 3, 1), (24, .bipush 13, 2), (26, .if_icmp .lt 5, 3), (29, .iconst 0, 1), (30, .ireturn, 1), (31, .aload_n 0, 1), (32, .getfield 24, 3), (35, .iload_n 1, 1), (36, .aaload, 1), (37, .iload_n 2, 1), (38, .bipush 13, 2), (40, .imul, 1), (41, .iload_n 3, 1), (42, .iadd, 1), (43, .iaload, 1), (44, .ireturn, 1)]
theorem dX10_countOf : ∀ q ∈ tbX10_countOf, decode prog_12_method_3_code q.1 = .ok q.2 := by decide +kernel
set_option maxRecDepth 20000 in
theorem cX10_countOf (l : Launch) (w : WX) (hL : Lay w) (t : Nat) (ht : Wat w t 10 0) (p1 : Int32) (p2 : Int32) (p3 : Int32) (M : Mem) : Ct l w yX10_countOf prog_12_method_3_code 4 (Option.some FieldType.int) 0 0 evI (emC M) [.ref t, .int p1, .int p2, .int p3] M (FX10_countOf t p1 p2 p3 M) := by
  refine ct_of (by decide) (Nat.le_of_ble_eq_true rfl) (fun x hl hx hb hz => ?_)
  subst hl
  have hd : ∀ i, DAt (xc x).code (tbX10_countOf[i]?) := fun i => by rw [hb]; exact dat_of dX10_countOf i
  show C x w (Qn x w evI (emC M)) 4 0 [(0, .ref t), (1, .int p1), (2, .int p2), (3, .int p3)] [] M (FX10_countOf t p1 p2 p3 M)
  unfold FX10_countOf
  refine r_iload_n (pc' := 1) hx (hd 0) rfl 1 rfl rfl ?_
  refine r_jn0 29 ([]) ([]) (M) (?_) (fun j1 hj2 => ?_)
  · skip
    refine r_iconst (pc' := 30) (v := 0) hx (hd 15) (by decide) rfl ?_
    exact r_iret hx (hd 16) rfl rfl hz
  refine r_if_lt (tgt := 29) (pc' := 4) hx (hd 1) (by decide) (fun _ => ?_) rfl (fun _ => ?_)
  · skip
    refine r_sub [] rfl ?_
    exact hj2
  · skip
    refine r_iload_n (pc' := 5) hx (hd 2) rfl 1 rfl rfl ?_
    refine r_bipush (pc' := 7) (v := 6) hx (hd 3) (by decide) rfl ?_
    refine r_icmp_ge (tgt := 29) (pc' := 10) hx (hd 4) (by decide) (fun _ => ?_) rfl (fun _ => ?_)
    · skip
      refine r_sub [] rfl ?_
      exact hj2
    · skip
      refine r_iload_n (pc' := 11) hx (hd 5) rfl 2 rfl rfl ?_
      refine r_if_lt (tgt := 29) (pc' := 14) hx (hd 6) (by decide) (fun _ => ?_) rfl (fun _ => ?_)
      · skip
        refine r_sub [] rfl ?_
        exact hj2
      · skip
        refine r_iload_n (pc' := 15) hx (hd 7) rfl 2 rfl rfl ?_
        refine r_iconst (pc' := 16) (v := 3) hx (hd 8) (by decide) rfl ?_
        refine r_icmp_ge (tgt := 29) (pc' := 19) hx (hd 9) (by decide) (fun _ => ?_) rfl (fun _ => ?_)
        · skip
          refine r_sub [] rfl ?_
          exact hj2
        · skip
          refine r_iload_n (pc' := 20) hx (hd 10) rfl 3 rfl rfl ?_
          refine r_if_lt (tgt := 29) (pc' := 23) hx (hd 11) (by decide) (fun _ => ?_) rfl (fun _ => ?_)
          · skip
            refine r_sub [] rfl ?_
            exact hj2
          · skip
            refine r_iload_n (pc' := 24) hx (hd 12) rfl 3 rfl rfl ?_
            refine r_bipush (pc' := 26) (v := 13) hx (hd 13) (by decide) rfl ?_
            refine r_icmp_lt (tgt := 31) (pc' := 29) hx (hd 14) (by decide) (fun _ => ?_) rfl (fun _ => ?_)
            · skip
              refine r_aload_n (pc' := 32) hx (hd 17) rfl 0 rfl rfl ?_
              refine r_get (pc' := 35) (v := .ref (t + 5)) hx (hd 18) fl_10_24 ht rfl (by decide) rfl ?_
              have h3 := hL.1 _ _ _ ht 2 5 33 6 rfl
              refine r_iload_n (pc' := 36) hx (hd 19) rfl 1 rfl rfl ?_
              refine r_gd (fun h4 => ?_)
              refine r_aald (pc' := 37) (k := ix p1) hx (hd 20) h3 rfl rfl rfl h4 rfl rfl ?_
              have h5 := hL.2 _ _ _ h3 5 1 1 20 39 rfl (ix p1) (inb_lt h4)
              refine r_iload_n (pc' := 38) hx (hd 21) rfl 2 rfl rfl ?_
              refine r_bipush (pc' := 40) (v := 13) hx (hd 22) (by decide) rfl ?_
              refine r_imul (pc' := 41) hx (hd 23) rfl ?_
              refine r_iload_n (pc' := 42) hx (hd 24) rfl 3 rfl rfl ?_
              refine r_iadd (pc' := 43) hx (hd 25) rfl ?_
              refine r_gd (fun h6 => ?_)
              refine r_iald (pc' := 44) (k := ix ((p2 * 13) + p3)) hx (hd 26) h5 h6 rfl rfl ?_
              exact r_iret hx (hd 27) rfl rfl hz
            · skip
              refine r_sub [] rfl ?_
              exact hj2
abbrev yX8_alikeAtEnd : MethodName := ({ cls := "CribbageRoom$Table", name := "alikeAtEnd", desc := "()I" } : Jvm.MethodName)
def tbX8_alikeAtEnd : List (Nat × Instr × Nat) := [(0, .iconst 0, 1), (1, .istore_n 1, 1), (2, .aload_n 0, 1), (3, .getfield 51, 3), (6, .iconst 1, 1), (7, .isub, 1), (8, .istore_n 2, 1), (9, .iload_n 2, 1), (10, .ifCond .lt 36, 3), (13, .aload_n 0, 1), (14, .getfield 19, 3), (17, .iload_n 2, 1), (18, .iaload, 1), (19, .iconst 4, 1), (20, .idiv, 1), (21, .aload_n 0, 1), (22, .getfield 19, 3), (25, .aload_n 0, 1), (26, .getfield 51, 3), (29, .iconst 1, 1), (30, .isub, 1), (31, .iaload, 1), (32, .iconst 4, 1), (33, .idiv, 1), (34, .if_icmp .ne 12, 3), (37, .iinc 1 1, 3), (40, .iinc 2 (-1), 3), (43, .goto (-34), 3), (46, .iload_n 1, 1), (47, .ireturn, 1)]
theorem dX8_alikeAtEnd : ∀ q ∈ tbX8_alikeAtEnd, decode prog_10_method_14_code q.1 = .ok q.2 := by decide +kernel
set_option maxRecDepth 20000 in
theorem cX8_alikeAtEnd (l : Launch) (w : WX) (hL : Lay w) (t : Nat) (ht : Wat w t 8 0) (M : Mem) : Ct l w yX8_alikeAtEnd prog_10_method_14_code 3 (Option.some FieldType.int) 0 0 evI (emC M) [.ref t] M (FX8_alikeAtEnd t M) := by
  refine ct_of (by decide) (Nat.le_of_ble_eq_true rfl) (fun x hl hx hb hz => ?_)
  subst hl
  have hd : ∀ i, DAt (xc x).code (tbX8_alikeAtEnd[i]?) := fun i => by rw [hb]; exact dat_of dX8_alikeAtEnd i
  show C x w (Qn x w evI (emC M)) 3 0 [(0, .ref t)] [] M (FX8_alikeAtEnd t M)
  unfold FX8_alikeAtEnd
  refine r_iconst (pc' := 1) (v := 0) hx (hd 0) (by decide) rfl ?_
  refine r_istore_n (pc' := 2) (L' := [(1, .int 0), (0, .ref t)]) hx (hd 1) rfl (by decide) rfl rfl ?_
  refine r_aload_n (pc' := 3) hx (hd 2) rfl 1 rfl rfl ?_
  refine r_get (pc' := 6) (v := .int (mI M t 8)) hx (hd 3) fl_8_51 ht rfl (by decide) rfl ?_
  refine r_iconst (pc' := 7) (v := 1) hx (hd 4) (by decide) rfl ?_
  refine r_isub (pc' := 8) hx (hd 5) rfl ?_
  refine r_nmI (fun v1 => ?_)
  refine r_istore_n (pc' := 9) (L' := [(2, .int v1), (1, .int 0), (0, .ref t)]) hx (hd 6) rfl (by decide) rfl rfl ?_
  refine r_sub [2, 1, 0] rfl ?_
  refine r_wl2 (fun v2 v3 => [(0, .ref t), (1, .int v2), (2, .int v3)]) (fun v2 v3 => []) (fun v2 v3 => M) (fun v2 v3 rec4 ih5 => ?_) fuel 0 v1
  refine r_iload_n (pc' := 10) hx (hd 7) rfl 2 rfl rfl ?_
  refine r_jn0 46 ([(1, .int v2)]) ([]) (M) (?_) (fun j6 hj7 => ?_)
  · skip
    refine r_iload_n (pc' := 47) hx (hd 28) rfl 0 rfl rfl ?_
    exact r_iret hx (hd 29) rfl rfl hz
  refine r_if_lt (tgt := 46) (pc' := 13) hx (hd 8) (by decide) (fun _ => ?_) rfl (fun _ => ?_)
  · skip
    refine r_sub [1] rfl ?_
    exact hj7
  · skip
    refine r_aload_n (pc' := 14) hx (hd 9) rfl 0 rfl rfl ?_
    refine r_get (pc' := 17) (v := .ref (t + 3)) hx (hd 10) fl_8_19 ht rfl (by decide) rfl ?_
    have h8 := hL.1 _ _ _ ht 2 3 20 8 rfl
    refine r_iload_n (pc' := 18) hx (hd 11) rfl 2 rfl rfl ?_
    refine r_gd (fun h9 => ?_)
    refine r_iald (pc' := 19) (k := ix v3) hx (hd 12) h8 h9 rfl rfl ?_
    refine r_iconst (pc' := 20) (v := 4) hx (hd 13) (by decide) rfl ?_
    refine r_idiv (pc' := 21) hx (hd 14) (by decide) rfl ?_
    refine r_aload_n (pc' := 22) hx (hd 15) rfl 0 rfl rfl ?_
    refine r_get (pc' := 25) (v := .ref (t + 3)) hx (hd 16) fl_8_19 ht rfl (by decide) rfl ?_
    have h10 := hL.1 _ _ _ ht 2 3 20 8 rfl
    refine r_aload_n (pc' := 26) hx (hd 17) rfl 0 rfl rfl ?_
    refine r_get (pc' := 29) (v := .int (mI M t 8)) hx (hd 18) fl_8_51 ht rfl (by decide) rfl ?_
    refine r_iconst (pc' := 30) (v := 1) hx (hd 19) (by decide) rfl ?_
    refine r_isub (pc' := 31) hx (hd 20) rfl ?_
    refine r_gd (fun h11 => ?_)
    refine r_iald (pc' := 32) (k := ix ((mI M t 8) - 1)) hx (hd 21) h10 h11 rfl rfl ?_
    refine r_iconst (pc' := 33) (v := 4) hx (hd 22) (by decide) rfl ?_
    refine r_idiv (pc' := 34) hx (hd 23) (by decide) rfl ?_
    refine r_icmp_ne (tgt := 46) (pc' := 37) hx (hd 24) (by decide) (fun _ => ?_) rfl (fun _ => ?_)
    · skip
      refine r_sub [1] rfl ?_
      exact hj7
    · skip
      refine r_iinc (pc' := 40) (v := 1) hx (hd 25) 1 rfl (by decide) (by decide) (fun v12 => [(1, .int v12), (0, .ref t), (2, .int v3)]) (fun _ => rfl) rfl (fun v12 => ?_)
      refine r_iinc (pc' := 43) (v := (-1)) hx (hd 26) 2 rfl (by decide) (by decide) (fun v13 => [(2, .int v13), (1, .int v12), (0, .ref t)]) (fun _ => rfl) rfl (fun v13 => ?_)
      refine r_goto (tgt := 9) hx (hd 27) (by decide) ?_
      refine r_sub [2, 1, 0] rfl ?_
      exact ih5 v12 v13
abbrev yX8_runAtEnd : MethodName := ({ cls := "CribbageRoom$Table", name := "runAtEnd", desc := "()I" } : Jvm.MethodName)
def tbX8_runAtEnd : List (Nat × Instr × Nat) := [(0, .iconst 0, 1), (1, .istore_n 1, 1), (2, .iconst 0, 1), (3, .istore_n 2, 1), (4, .iconst 1, 1), (5, .istore_n 3, 1), (6, .iload_n 3, 1), (7, .aload_n 0, 1), (8, .getfield 51, 3), (11, .if_icmp .gt 65, 3), (14, .iconst 1, 1), (15, .aload_n 0, 1), (16, .getfield 19, 3), (19, .aload_n 0, 1), (20, .getfield 51, 3), (23, .iload_n 3, 1), (24, .isub, 1), (25, .iaload, 1), (26, .iconst 4, 1), (27, .idiv, 1), (28, .ishl, 1), (29, .istore 4, 2), (31, .iload_n 2, 1), (32, .iload 4, 2), (34, .iand, 1), (35, .ifCond .eq 5, 3), (38, .iload_n 1, 1), (39, .ireturn, 1), (40, .iload_n 2, 1), (41, .iload 4, 2), (43, .ior, 1), (44, .istore_n 2, 1), (45, .iload_n 2, 1), (46, .iload_n 2, 1), (47, .ineg, 1), (48, .iand, 1), (49, .istore 5, 2), (51, .iload_n 3, 1), (52, .iconst 3, 1), (53, .if_icmp .lt 17, 3), (56, .iload_n 2, 1), (57, .iload 5, 2), (59, .iconst 1, 1), (60, .iload_n 3, 1), (61, .ishl, 1), (62, .iconst 1, 1), (63, .isub, 1), (64, .imul, 1), (65, .if_icmp .ne 5, 3), (68, .iload_n 3, 1), (69, .istore_n 1, 1), (70, .iinc 3 1, 3), (73, .goto (-67), 3), (76, .iload_n 1, 1), (77, .ireturn, 1)]
theorem dX8_runAtEnd : ∀ q ∈ tbX8_runAtEnd, decode prog_10_method_15_code q.1 = .ok q.2 := by decide +kernel
set_option maxRecDepth 20000 in
theorem cX8_runAtEnd (l : Launch) (w : WX) (hL : Lay w) (t : Nat) (ht : Wat w t 8 0) (M : Mem) : Ct l w yX8_runAtEnd prog_10_method_15_code 6 (Option.some FieldType.int) 0 0 evI (emC M) [.ref t] M (FX8_runAtEnd t M) := by
  refine ct_of (by decide) (Nat.le_of_ble_eq_true rfl) (fun x hl hx hb hz => ?_)
  subst hl
  have hd : ∀ i, DAt (xc x).code (tbX8_runAtEnd[i]?) := fun i => by rw [hb]; exact dat_of dX8_runAtEnd i
  show C x w (Qn x w evI (emC M)) 6 0 [(0, .ref t)] [] M (FX8_runAtEnd t M)
  unfold FX8_runAtEnd
  refine r_iconst (pc' := 1) (v := 0) hx (hd 0) (by decide) rfl ?_
  refine r_istore_n (pc' := 2) (L' := [(1, .int 0), (0, .ref t)]) hx (hd 1) rfl (by decide) rfl rfl ?_
  refine r_iconst (pc' := 3) (v := 0) hx (hd 2) (by decide) rfl ?_
  refine r_istore_n (pc' := 4) (L' := [(2, .int 0), (1, .int 0), (0, .ref t)]) hx (hd 3) rfl (by decide) rfl rfl ?_
  refine r_iconst (pc' := 5) (v := 1) hx (hd 4) (by decide) rfl ?_
  refine r_istore_n (pc' := 6) (L' := [(3, .int 1), (2, .int 0), (1, .int 0), (0, .ref t)]) hx (hd 5) rfl (by decide) rfl rfl ?_
  refine r_sub [3, 2, 1, 0] rfl ?_
  refine r_wl3 (fun v1 v2 v3 => [(0, .ref t), (1, .int v1), (2, .int v2), (3, .int v3)]) (fun v1 v2 v3 => []) (fun v1 v2 v3 => M) (fun v1 v2 v3 rec4 ih5 => ?_) fuel 0 0 1
  refine r_iload_n (pc' := 7) hx (hd 6) rfl 3 rfl rfl ?_
  refine r_aload_n (pc' := 8) hx (hd 7) rfl 0 rfl rfl ?_
  refine r_get (pc' := 11) (v := .int (mI M t 8)) hx (hd 8) fl_8_51 ht rfl (by decide) rfl ?_
  refine r_icmp_gt (tgt := 76) (pc' := 14) hx (hd 9) (by decide) (fun _ => ?_) rfl (fun _ => ?_)
  · skip
    refine r_iload_n (pc' := 77) hx (hd 53) rfl 1 rfl rfl ?_
    exact r_iret hx (hd 54) rfl rfl hz
  · skip
    refine r_iconst (pc' := 15) (v := 1) hx (hd 10) (by decide) rfl ?_
    refine r_aload_n (pc' := 16) hx (hd 11) rfl 0 rfl rfl ?_
    refine r_get (pc' := 19) (v := .ref (t + 3)) hx (hd 12) fl_8_19 ht rfl (by decide) rfl ?_
    have h6 := hL.1 _ _ _ ht 2 3 20 8 rfl
    refine r_aload_n (pc' := 20) hx (hd 13) rfl 0 rfl rfl ?_
    refine r_get (pc' := 23) (v := .int (mI M t 8)) hx (hd 14) fl_8_51 ht rfl (by decide) rfl ?_
    refine r_iload_n (pc' := 24) hx (hd 15) rfl 3 rfl rfl ?_
    refine r_isub (pc' := 25) hx (hd 16) rfl ?_
    refine r_gd (fun h7 => ?_)
    refine r_iald (pc' := 26) (k := ix ((mI M t 8) - v3)) hx (hd 17) h6 h7 rfl rfl ?_
    refine r_iconst (pc' := 27) (v := 4) hx (hd 18) (by decide) rfl ?_
    refine r_idiv (pc' := 28) hx (hd 19) (by decide) rfl ?_
    refine r_ishl (pc' := 29) hx (hd 20) rfl ?_
    refine r_nmI (fun v8 => ?_)
    refine r_istore (pc' := 31) (L' := [(4, .int v8), (0, .ref t), (1, .int v1), (2, .int v2), (3, .int v3)]) hx (hd 21) (by decide) rfl rfl ?_
    refine r_iload_n (pc' := 32) hx (hd 22) rfl 3 rfl rfl ?_
    refine r_iload (pc' := 34) hx (hd 23) 0 rfl rfl ?_
    refine r_iand (pc' := 35) hx (hd 24) rfl ?_
    refine r_if_eq (tgt := 40) (pc' := 38) hx (hd 25) (by decide) (fun _ => ?_) rfl (fun _ => ?_)
    · skip
      refine r_iload_n (pc' := 41) hx (hd 28) rfl 3 rfl rfl ?_
      refine r_iload (pc' := 43) hx (hd 29) 0 rfl rfl ?_
      refine r_ior (pc' := 44) hx (hd 30) rfl ?_
      refine r_nmI (fun v9 => ?_)
      refine r_istore_n (pc' := 45) (L' := [(2, .int v9), (4, .int v8), (0, .ref t), (1, .int v1), (3, .int v3)]) hx (hd 31) rfl (by decide) rfl rfl ?_
      refine r_iload_n (pc' := 46) hx (hd 32) rfl 0 rfl rfl ?_
      refine r_iload_n (pc' := 47) hx (hd 33) rfl 0 rfl rfl ?_
      refine r_ineg (pc' := 48) hx (hd 34) rfl ?_
      refine r_iand (pc' := 49) hx (hd 35) rfl ?_
      refine r_nmI (fun v10 => ?_)
      refine r_istore (pc' := 51) (L' := [(5, .int v10), (2, .int v9), (4, .int v8), (0, .ref t), (1, .int v1), (3, .int v3)]) hx (hd 36) (by decide) rfl rfl ?_
      refine r_iload_n (pc' := 52) hx (hd 37) rfl 5 rfl rfl ?_
      refine r_iconst (pc' := 53) (v := 3) hx (hd 38) (by decide) rfl ?_
      refine r_jn1 70 (fun v11 => [(0, .ref t), (1, .int v11), (2, .int v9), (3, .int v3)]) (fun v11 => []) (fun v11 => M) (fun v11 => ?_) (fun j12 hj13 => ?_)
      · skip
        refine r_iinc (pc' := 73) (v := 1) hx (hd 51) 3 rfl (by decide) (by decide) (fun v14 => [(3, .int v14), (0, .ref t), (1, .int v11), (2, .int v9)]) (fun _ => rfl) rfl (fun v14 => ?_)
        refine r_goto (tgt := 6) hx (hd 52) (by decide) ?_
        refine r_sub [1, 2, 3, 0] rfl ?_
        exact ih5 v11 v9 v14
      refine r_icmp_lt (tgt := 70) (pc' := 56) hx (hd 39) (by decide) (fun _ => ?_) rfl (fun _ => ?_)
      · skip
        refine r_sub [3, 4, 1, 5] rfl ?_
        exact hj13 v1
      · skip
        refine r_iload_n (pc' := 57) hx (hd 40) rfl 1 rfl rfl ?_
        refine r_iload (pc' := 59) hx (hd 41) 0 rfl rfl ?_
        refine r_iconst (pc' := 60) (v := 1) hx (hd 42) (by decide) rfl ?_
        refine r_iload_n (pc' := 61) hx (hd 43) rfl 5 rfl rfl ?_
        refine r_ishl (pc' := 62) hx (hd 44) rfl ?_
        refine r_iconst (pc' := 63) (v := 1) hx (hd 45) (by decide) rfl ?_
        refine r_isub (pc' := 64) hx (hd 46) rfl ?_
        refine r_imul (pc' := 65) hx (hd 47) rfl ?_
        refine r_icmp_ne (tgt := 70) (pc' := 68) hx (hd 48) (by decide) (fun _ => ?_) rfl (fun _ => ?_)
        · skip
          refine r_sub [3, 4, 1, 5] rfl ?_
          exact hj13 v1
        · skip
          refine r_iload_n (pc' := 69) hx (hd 49) rfl 5 rfl rfl ?_
          refine r_istore_n (pc' := 70) (L' := [(1, .int v3), (5, .int v10), (2, .int v9), (4, .int v8), (0, .ref t), (3, .int v3)]) hx (hd 50) rfl (by decide) rfl rfl ?_
          refine r_sub [4, 0, 2, 5] rfl ?_
          exact hj13 v3
    · skip
      refine r_iload_n (pc' := 39) hx (hd 26) rfl 2 rfl rfl ?_
      exact r_iret hx (hd 27) rfl rfl hz
abbrev yX8_linePegs : MethodName := ({ cls := "CribbageRoom$Table", name := "linePegs", desc := "(LCribbageRoom$Worth;)I" } : Jvm.MethodName)
def tbX8_linePegs : List (Nat × Instr × Nat) := [(0, .aload_n 0, 1), (1, .getfield 54, 3), (4, .aload_n 1, 1), (5, .getfield 127, 3), (8, .if_icmp .ne 16, 3), (11, .aload_n 1, 1), (12, .iconst 1, 1), (13, .iconst 2, 1), (14, .aload_n 0, 1), (15, .getfield 51, 3), (18, .invokevirtual 130, 3), (21, .goto 4, 3), (24, .iconst 0, 1), (25, .istore_n 2, 1), (26, .aload_n 0, 1), (27, .getfield 54, 3), (30, .bipush 31, 2), (32, .if_icmp .ne 6, 3), (35, .iinc 2 2, 3), (38, .aload_n 0, 1), (39, .invokevirtual 134, 3), (42, .istore_n 3, 1), (43, .iload_n 3, 1), (44, .iconst 2, 1), (45, .if_icmp .lt 33, 3), (48, .iload_n 2, 1), (49, .aload_n 1, 1), (50, .iconst 2, 1), (51, .iconst 2, 1), (52, .aload_n 0, 1), (53, .getfield 19, 3), (56, .aload_n 0, 1), (57, .getfield 51, 3), (60, .iconst 1, 1), (61, .isub, 1), (62, .iaload, 1), (63, .iconst 4, 1), (64, .idiv, 1), (65, .invokevirtual 130, 3), (68, .iload_n 3, 1), (69, .iload_n 3, 1), (70, .iconst 1, 1), (71, .isub, 1), (72, .imul, 1), (73, .iconst 2, 1), (74, .idiv, 1), (75, .imul, 1), (76, .iadd, 1), (77, .istore_n 2, 1), (78, .aload_n 0, 1), (79, .invokevirtual 138, 3), (82, .istore 4, 2), (84, .iload 4, 2), (86, .iconst 3, 1), (87, .if_icmp .lt 14, 3), (90, .iload_n 2, 1), (91, .aload_n 1, 1), (92, .iconst 3, 1), (93, .iconst 2, 1), (94, .iload 4, 2), (96, .invokevirtual 130, 3), (99, .iadd, 1), (100, .istore_n 2, 1), (101, .iload_n 2, 1), (102, .ireturn, 1)]
theorem dX8_linePegs : ∀ q ∈ tbX8_linePegs, decode prog_10_method_13_code q.1 = .ok q.2 := by decide +kernel
set_option maxRecDepth 20000 in
theorem cX8_linePegs (l : Launch) (w : WX) (hL : Lay w) (t : Nat) (ht : Wat w t 8 0) (p1 : Nat) (hp1 : Wat w p1 10 0) (M : Mem) : Ct l w yX8_linePegs prog_10_method_13_code 5 (Option.some FieldType.int) 1 25 evI (emC M) [.ref t, .ref p1] M (FX8_linePegs t p1 M) := by
  refine ct_of (by decide) (Nat.le_of_ble_eq_true rfl) (fun x hl hx hb hz => ?_)
  subst hl
  have hd : ∀ i, DAt (xc x).code (tbX8_linePegs[i]?) := fun i => by rw [hb]; exact dat_of dX8_linePegs i
  show C x w (Qn x w evI (emC M)) 5 0 [(0, .ref t), (1, .ref p1)] [] M (FX8_linePegs t p1 M)
  unfold FX8_linePegs
  refine r_aload_n (pc' := 1) hx (hd 0) rfl 0 rfl rfl ?_
  refine r_get (pc' := 4) (v := .int (mI M t 9)) hx (hd 1) fl_8_54 ht rfl (by decide) rfl ?_
  refine r_aload_n (pc' := 5) hx (hd 2) rfl 1 rfl rfl ?_
  refine r_get (pc' := 8) (v := .int (mI M p1 4)) hx (hd 3) fl_8_127 hp1 rfl (by decide) rfl ?_
  refine r_jn1 25 (fun v1 => [(0, .ref t), (1, .ref p1)]) (fun v1 => [.int v1]) (fun v1 => M) (fun v1 => ?_) (fun j2 hj3 => ?_)
  · skip
    refine r_istore_n (pc' := 26) (L' := [(2, .int v1), (0, .ref t), (1, .ref p1)]) hx (hd 13) rfl (by decide) rfl rfl ?_
    refine r_aload_n (pc' := 27) hx (hd 14) rfl 1 rfl rfl ?_
    refine r_get (pc' := 30) (v := .int (mI M t 9)) hx (hd 15) fl_8_54 ht rfl (by decide) rfl ?_
    refine r_bipush (pc' := 32) (v := 31) hx (hd 16) (by decide) rfl ?_
    refine r_jn1 38 (fun v4 => [(0, .ref t), (1, .ref p1), (2, .int v4)]) (fun v4 => []) (fun v4 => M) (fun v4 => ?_) (fun j5 hj6 => ?_)
    · skip
      refine r_aload_n (pc' := 39) hx (hd 19) rfl 0 rfl rfl ?_
      refine r_callV (pc' := 42) (As := []) (rest := []) hx (hd 20) md_X8_alikeAtEnd mi_X8_alikeAtEnd ms_X8_alikeAtEnd ml_8_134 (cX8_alikeAtEnd (xl x) w hL t ht M) ht rfl (by decide) ⟨Nat.le_of_ble_eq_true rfl, Nat.le_of_ble_eq_true rfl⟩ rfl rfl (Nat.le_of_ble_eq_true rfl) (fun r7 => .int r7 :: []) (fun _ => M) (fun _ => ⟨rfl, rfl⟩) rfl (fun r7 _ => ?_)
      refine r_istore_n (pc' := 43) (L' := [(3, .int r7), (0, .ref t), (1, .ref p1), (2, .int v4)]) hx (hd 21) rfl (by decide) rfl rfl ?_
      refine r_iload_n (pc' := 44) hx (hd 22) rfl 0 rfl rfl ?_
      refine r_iconst (pc' := 45) (v := 2) hx (hd 23) (by decide) rfl ?_
      refine r_jn1 78 (fun v8 => [(0, .ref t), (1, .ref p1), (2, .int v8)]) (fun v8 => []) (fun v8 => M) (fun v8 => ?_) (fun j9 hj10 => ?_)
      · skip
        refine r_aload_n (pc' := 79) hx (hd 49) rfl 0 rfl rfl ?_
        refine r_callV (pc' := 82) (As := []) (rest := []) hx (hd 50) md_X8_runAtEnd mi_X8_runAtEnd ms_X8_runAtEnd ml_8_138 (cX8_runAtEnd (xl x) w hL t ht M) ht rfl (by decide) ⟨Nat.le_of_ble_eq_true rfl, Nat.le_of_ble_eq_true rfl⟩ rfl rfl (Nat.le_of_ble_eq_true rfl) (fun r11 => .int r11 :: []) (fun _ => M) (fun _ => ⟨rfl, rfl⟩) rfl (fun r11 _ => ?_)
        refine r_istore (pc' := 84) (L' := [(4, .int r11), (0, .ref t), (1, .ref p1), (2, .int v8)]) hx (hd 51) (by decide) rfl rfl ?_
        refine r_iload (pc' := 86) hx (hd 52) 0 rfl rfl ?_
        refine r_iconst (pc' := 87) (v := 3) hx (hd 53) (by decide) rfl ?_
        refine r_jn1 101 (fun v12 => [(2, .int v12)]) (fun v12 => []) (fun v12 => M) (fun v12 => ?_) (fun j13 hj14 => ?_)
        · skip
          refine r_iload_n (pc' := 102) hx (hd 63) rfl 0 rfl rfl ?_
          exact r_iret hx (hd 64) rfl rfl hz
        refine r_icmp_lt (tgt := 101) (pc' := 90) hx (hd 54) (by decide) (fun _ => ?_) rfl (fun _ => ?_)
        · skip
          refine r_sub [3] rfl ?_
          exact hj14 v8
        · skip
          refine r_iload_n (pc' := 91) hx (hd 55) rfl 3 rfl rfl ?_
          refine r_aload_n (pc' := 92) hx (hd 56) rfl 2 rfl rfl ?_
          refine r_iconst (pc' := 93) (v := 3) hx (hd 57) (by decide) rfl ?_
          refine r_iconst (pc' := 94) (v := 2) hx (hd 58) (by decide) rfl ?_
          refine r_iload (pc' := 96) hx (hd 59) 0 rfl rfl ?_
          refine r_callV (pc' := 99) (As := [.int 3, .int 2, .int r11]) (rest := [.int v8]) hx (hd 60) md_X10_countOf mi_X10_countOf ms_X10_countOf ml_8_130 (cX10_countOf (xl x) w hL p1 hp1 3 2 r11 M) hp1 rfl (by decide) ⟨Nat.le_of_ble_eq_true rfl, Nat.le_of_ble_eq_true rfl⟩ rfl rfl (Nat.le_of_ble_eq_true rfl) (fun r15 => .int r15 :: [.int v8]) (fun _ => M) (fun _ => ⟨rfl, rfl⟩) rfl (fun r15 _ => ?_)
          refine r_iadd (pc' := 100) hx (hd 61) rfl ?_
          refine r_nmI (fun v16 => ?_)
          refine r_istore_n (pc' := 101) (L' := [(2, .int v16), (4, .int r11), (0, .ref t), (1, .ref p1)]) hx (hd 62) rfl (by decide) rfl rfl ?_
          refine r_sub [0] rfl ?_
          exact hj14 v16
      refine r_icmp_lt (tgt := 78) (pc' := 48) hx (hd 24) (by decide) (fun _ => ?_) rfl (fun _ => ?_)
      · skip
        refine r_sub [1, 2, 3] rfl ?_
        exact hj10 v4
      · skip
        refine r_iload_n (pc' := 49) hx (hd 25) rfl 3 rfl rfl ?_
        refine r_aload_n (pc' := 50) hx (hd 26) rfl 2 rfl rfl ?_
        refine r_iconst (pc' := 51) (v := 2) hx (hd 27) (by decide) rfl ?_
        refine r_iconst (pc' := 52) (v := 2) hx (hd 28) (by decide) rfl ?_
        refine r_aload_n (pc' := 53) hx (hd 29) rfl 1 rfl rfl ?_
        refine r_get (pc' := 56) (v := .ref (t + 3)) hx (hd 30) fl_8_19 ht rfl (by decide) rfl ?_
        have h17 := hL.1 _ _ _ ht 2 3 20 8 rfl
        refine r_aload_n (pc' := 57) hx (hd 31) rfl 1 rfl rfl ?_
        refine r_get (pc' := 60) (v := .int (mI M t 8)) hx (hd 32) fl_8_51 ht rfl (by decide) rfl ?_
        refine r_iconst (pc' := 61) (v := 1) hx (hd 33) (by decide) rfl ?_
        refine r_isub (pc' := 62) hx (hd 34) rfl ?_
        refine r_gd (fun h18 => ?_)
        refine r_iald (pc' := 63) (k := ix ((mI M t 8) - 1)) hx (hd 35) h17 h18 rfl rfl ?_
        refine r_iconst (pc' := 64) (v := 4) hx (hd 36) (by decide) rfl ?_
        refine r_idiv (pc' := 65) hx (hd 37) (by decide) rfl ?_
        refine r_callV (pc' := 68) (As := [.int 2, .int 2, .int ((mI M (t + 3) (ix ((mI M t 8) - 1))) / 4)]) (rest := [.int v4]) hx (hd 38) md_X10_countOf mi_X10_countOf ms_X10_countOf ml_8_130 (cX10_countOf (xl x) w hL p1 hp1 2 2 ((mI M (t + 3) (ix ((mI M t 8) - 1))) / 4) M) hp1 rfl (by decide) ⟨Nat.le_of_ble_eq_true rfl, Nat.le_of_ble_eq_true rfl⟩ rfl rfl (Nat.le_of_ble_eq_true rfl) (fun r19 => .int r19 :: [.int v4]) (fun _ => M) (fun _ => ⟨rfl, rfl⟩) rfl (fun r19 _ => ?_)
        refine r_iload_n (pc' := 69) hx (hd 39) rfl 0 rfl rfl ?_
        refine r_iload_n (pc' := 70) hx (hd 40) rfl 0 rfl rfl ?_
        refine r_iconst (pc' := 71) (v := 1) hx (hd 41) (by decide) rfl ?_
        refine r_isub (pc' := 72) hx (hd 42) rfl ?_
        refine r_imul (pc' := 73) hx (hd 43) rfl ?_
        refine r_iconst (pc' := 74) (v := 2) hx (hd 44) (by decide) rfl ?_
        refine r_idiv (pc' := 75) hx (hd 45) (by decide) rfl ?_
        refine r_imul (pc' := 76) hx (hd 46) rfl ?_
        refine r_iadd (pc' := 77) hx (hd 47) rfl ?_
        refine r_nmI (fun v20 => ?_)
        refine r_istore_n (pc' := 78) (L' := [(2, .int v20), (3, .int r7), (0, .ref t), (1, .ref p1)]) hx (hd 48) rfl (by decide) rfl rfl ?_
        refine r_sub [2, 3, 0] rfl ?_
        exact hj10 v20
    refine r_icmp_ne (tgt := 38) (pc' := 35) hx (hd 17) (by decide) (fun _ => ?_) rfl (fun _ => ?_)
    · skip
      refine r_sub [1, 2, 0] rfl ?_
      exact hj6 v1
    · skip
      refine r_iinc (pc' := 38) (v := 2) hx (hd 18) 0 rfl (by decide) (by decide) (fun v21 => [(2, .int v21), (0, .ref t), (1, .ref p1)]) (fun _ => rfl) rfl (fun v21 => ?_)
      refine r_sub [1, 2, 0] rfl ?_
      exact hj6 v21
  refine r_icmp_ne (tgt := 24) (pc' := 11) hx (hd 4) (by decide) (fun _ => ?_) rfl (fun _ => ?_)
  · skip
    refine r_iconst (pc' := 25) (v := 0) hx (hd 12) (by decide) rfl ?_
    exact hj3 0
  · skip
    refine r_aload_n (pc' := 12) hx (hd 5) rfl 1 rfl rfl ?_
    refine r_iconst (pc' := 13) (v := 1) hx (hd 6) (by decide) rfl ?_
    refine r_iconst (pc' := 14) (v := 2) hx (hd 7) (by decide) rfl ?_
    refine r_aload_n (pc' := 15) hx (hd 8) rfl 0 rfl rfl ?_
    refine r_get (pc' := 18) (v := .int (mI M t 8)) hx (hd 9) fl_8_51 ht rfl (by decide) rfl ?_
    refine r_callV (pc' := 21) (As := [.int 1, .int 2, .int (mI M t 8)]) (rest := []) hx (hd 10) md_X10_countOf mi_X10_countOf ms_X10_countOf ml_8_130 (cX10_countOf (xl x) w hL p1 hp1 1 2 (mI M t 8) M) hp1 rfl (by decide) ⟨Nat.le_of_ble_eq_true rfl, Nat.le_of_ble_eq_true rfl⟩ rfl rfl (Nat.le_of_ble_eq_true rfl) (fun r22 => .int r22 :: []) (fun _ => M) (fun _ => ⟨rfl, rfl⟩) rfl (fun r22 _ => ?_)
    refine r_goto (tgt := 25) hx (hd 11) (by decide) ?_
    exact hj3 r22
abbrev yX8_putDown : MethodName := ({ cls := "CribbageRoom$Table", name := "putDown", desc := "(ILCribbageRoom$Worth;)I" } : Jvm.MethodName)
def tbX8_putDown : List (Nat × Instr × Nat) := [(0, .aload_n 0, 1), (1, .getfield 32, 3), (4, .istore_n 3, 1), (5, .aload_n 0, 1), (6, .dup, 1), (7, .getfield 48, 3), (10, .iload_n 1, 1), (11, .invokestatic 81, 3), (14, .lor, 1), (15, .putfield 48, 3), (18, .aload_n 0, 1), (19, .getfield 51, 3), (22, .aload_n 0, 1), (23, .getfield 19, 3), (26, .arraylength, 1), (27, .if_icmp .ge 23, 3), (30, .aload_n 0, 1), (31, .getfield 19, 3), (34, .aload_n 0, 1), (35, .getfield 51, 3), (38, .iload_n 1, 1), (39, .iastore, 1), (40, .aload_n 0, 1), (41, .dup, 1), (42, .getfield 51, 3), (45, .iconst 1, 1), (46, .iadd, 1), (47, .putfield 51, 3), (50, .aload_n 0, 1), (51, .dup, 1), (52, .getfield 54, 3), (55, .aload_n 2, 1), (56, .iload_n 1, 1), (57, .invokevirtual 115, 3), (60, .iadd, 1), (61, .putfield 54, 3), (64, .aload_n 0, 1), (65, .iload_n 3, 1), (66, .putfield 35, 3), (69, .aload_n 0, 1), (70, .aload_n 2, 1), (71, .invokevirtual 123, 3), (74, .istore 4, 2), (76, .aload_n 0, 1), (77, .aload_n 0, 1), (78, .iconst 1, 1), (79, .iload_n 3, 1), (80, .isub, 1), (81, .aload_n 2, 1), (82, .invokevirtual 100, 3), (85, .putfield 32, 3), (88, .aload_n 0, 1), (89, .getfield 32, 3), (92, .iconst (-1), 1), (93, .if_icmp .ne 44, 3), (96, .iload 4, 2), (98, .aload_n 0, 1), (99, .getfield 54, 3), (102, .bipush 31, 2), (104, .if_icmp .ne 7, 3), (107, .iconst 0, 1), (108, .goto 4, 3), (111, .iconst 1, 1), (112, .iadd, 1), (113, .istore 4, 2), (115, .aload_n 0, 1), (116, .iconst 0, 1), (117, .putfield 54, 3), (120, .aload_n 0, 1), (121, .iconst 0, 1), (122, .putfield 51, 3), (125, .aload_n 0, 1), (126, .aload_n 0, 1), (127, .iconst 1, 1), (128, .iload_n 3, 1), (129, .isub, 1), (130, .aload_n 2, 1), (131, .invokevirtual 100, 3), (134, .putfield 32, 3), (137, .aload_n 0, 1), (138, .iload_n 3, 1), (139, .iload 4, 2), (141, .invokevirtual 96, 3), (144, .iload 4, 2), (146, .ireturn, 1)]
theorem dX8_putDown : ∀ q ∈ tbX8_putDown, decode prog_10_method_12_code q.1 = .ok q.2 := by decide +kernel
set_option maxRecDepth 20000 in
theorem cX8_putDown (l : Launch) (w : WX) (hL : Lay w) (t : Nat) (ht : Wat w t 8 0) (p1 : Int32) (p2 : Nat) (hp2 : Wat w p2 10 0) (M : Mem) : Ct l w yX8_putDown prog_10_method_12_code 5 (Option.some FieldType.int) 4 92 evIM emM [.ref t, .int p1, .ref p2] M (FX8_putDown t p1 p2 M) := by
  refine ct_of (by decide) (Nat.le_of_ble_eq_true rfl) (fun x hl hx hb hz => ?_)
  subst hl
  have hd : ∀ i, DAt (xc x).code (tbX8_putDown[i]?) := fun i => by rw [hb]; exact dat_of dX8_putDown i
  show C x w (Qn x w evIM emM) 5 0 [(0, .ref t), (1, .int p1), (2, .ref p2)] [] M (FX8_putDown t p1 p2 M)
  unfold FX8_putDown
  refine r_aload_n (pc' := 1) hx (hd 0) rfl 0 rfl rfl ?_
  refine r_get (pc' := 4) (v := .int (mI M t 10)) hx (hd 1) fl_8_32 ht rfl (by decide) rfl ?_
  refine r_nmI (fun v1 => ?_)
  refine r_istore_n (pc' := 5) (L' := [(3, .int v1), (0, .ref t), (1, .int p1), (2, .ref p2)]) hx (hd 2) rfl (by decide) rfl rfl ?_
  refine r_aload_n (pc' := 6) hx (hd 3) rfl 1 rfl rfl ?_
  refine r_dup (pc' := 7) hx (hd 4) rfl rfl ?_
  refine r_get (pc' := 10) (v := .long (mJ M t 4)) hx (hd 5) fl_8_48 ht rfl (by decide) rfl ?_
  refine r_iload_n (pc' := 11) hx (hd 6) rfl 2 rfl rfl ?_
  refine r_callSN (pc' := 14) (As := [.int p1]) (rest := [.long (mJ M t 4), .ref t]) hx (hd 7) md_X11_bit mst_X11_bit ml_8_81 (cX11_bit (xl x) w hL p1 M) ⟨Nat.le_of_ble_eq_true rfl, Nat.le_of_ble_eq_true rfl⟩ rfl rfl (Nat.le_of_ble_eq_true rfl) (fun r2 => .long r2 :: [.long (mJ M t 4), .ref t]) (fun _ => M) (fun _ => ⟨rfl, rfl⟩) rfl (fun r2 _ => ?_)
  refine r_lor (pc' := 15) hx (hd 8) rfl ?_
  refine r_putJ (pc' := 18) hx (hd 9) fp_8_48 ht rfl (by decide) rfl (fun M3 => ?_)
  refine r_aload_n (pc' := 19) hx (hd 10) rfl 1 rfl rfl ?_
  refine r_get (pc' := 22) (v := .int (mI M3 t 8)) hx (hd 11) fl_8_51 ht rfl (by decide) rfl ?_
  refine r_aload_n (pc' := 23) hx (hd 12) rfl 1 rfl rfl ?_
  refine r_get (pc' := 26) (v := .ref (t + 3)) hx (hd 13) fl_8_19 ht rfl (by decide) rfl ?_
  have h4 := hL.1 _ _ _ ht 2 3 20 8 rfl
  refine r_alen (pc' := 27) (v := 8) hx (hd 14) h4 (by decide) rfl ?_
  refine r_jn1 50 (fun M5 => [(0, .ref t), (1, .int p1), (2, .ref p2), (3, .int v1)]) (fun M5 => []) (fun M5 => M5) (fun M5 => ?_) (fun j6 hj7 => ?_)
  · skip
    refine r_aload_n (pc' := 51) hx (hd 28) rfl 0 rfl rfl ?_
    refine r_dup (pc' := 52) hx (hd 29) rfl rfl ?_
    refine r_get (pc' := 55) (v := .int (mI M5 t 9)) hx (hd 30) fl_8_54 ht rfl (by decide) rfl ?_
    refine r_aload_n (pc' := 56) hx (hd 31) rfl 2 rfl rfl ?_
    refine r_iload_n (pc' := 57) hx (hd 32) rfl 1 rfl rfl ?_
    refine r_callV (pc' := 60) (As := [.int p1]) (rest := [.int (mI M5 t 9), .ref t]) hx (hd 33) md_X10_valueOf mi_X10_valueOf ms_X10_valueOf ml_8_115 (cX10_valueOf (xl x) w hL p2 hp2 p1 M5) hp2 rfl (by decide) ⟨Nat.le_of_ble_eq_true rfl, Nat.le_of_ble_eq_true rfl⟩ rfl rfl (Nat.le_of_ble_eq_true rfl) (fun r8 => .int r8 :: [.int (mI M5 t 9), .ref t]) (fun _ => M5) (fun _ => ⟨rfl, rfl⟩) rfl (fun r8 _ => ?_)
    refine r_iadd (pc' := 61) hx (hd 34) rfl ?_
    refine r_putI (pc' := 64) hx (hd 35) fp_8_54 ht rfl (by decide) rfl (fun M9 => ?_)
    refine r_aload_n (pc' := 65) hx (hd 36) rfl 0 rfl rfl ?_
    refine r_iload_n (pc' := 66) hx (hd 37) rfl 3 rfl rfl ?_
    refine r_putI (pc' := 69) hx (hd 38) fp_8_35 ht rfl (by decide) rfl (fun M10 => ?_)
    refine r_aload_n (pc' := 70) hx (hd 39) rfl 0 rfl rfl ?_
    refine r_aload_n (pc' := 71) hx (hd 40) rfl 2 rfl rfl ?_
    refine r_callV (pc' := 74) (As := [.ref p2]) (rest := []) hx (hd 41) md_X8_linePegs mi_X8_linePegs ms_X8_linePegs ml_8_123 (cX8_linePegs (xl x) w hL t ht p2 hp2 M10) ht rfl (by decide) ⟨Nat.le_of_ble_eq_true rfl, Nat.le_of_ble_eq_true rfl⟩ rfl rfl (Nat.le_of_ble_eq_true rfl) (fun r11 => .int r11 :: []) (fun _ => M10) (fun _ => ⟨rfl, rfl⟩) rfl (fun r11 _ => ?_)
    refine r_istore (pc' := 76) (L' := [(4, .int r11), (0, .ref t), (1, .int p1), (2, .ref p2), (3, .int v1)]) hx (hd 42) (by decide) rfl rfl ?_
    refine r_aload_n (pc' := 77) hx (hd 43) rfl 1 rfl rfl ?_
    refine r_aload_n (pc' := 78) hx (hd 44) rfl 1 rfl rfl ?_
    refine r_iconst (pc' := 79) (v := 1) hx (hd 45) (by decide) rfl ?_
    refine r_iload_n (pc' := 80) hx (hd 46) rfl 4 rfl rfl ?_
    refine r_isub (pc' := 81) hx (hd 47) rfl ?_
    refine r_aload_n (pc' := 82) hx (hd 48) rfl 3 rfl rfl ?_
    refine r_callV (pc' := 85) (As := [.int (1 - v1), .ref p2]) (rest := [.ref t]) hx (hd 49) md_X8_firstWhoCan mi_X8_firstWhoCan ms_X8_firstWhoCan ml_8_100 (cX8_firstWhoCan (xl x) w hL t ht (1 - v1) p2 hp2 M10) ht rfl (by decide) ⟨Nat.le_of_ble_eq_true rfl, Nat.le_of_ble_eq_true rfl⟩ rfl rfl (Nat.le_of_ble_eq_true rfl) (fun r12 => .int r12 :: [.ref t]) (fun _ => M10) (fun _ => ⟨rfl, rfl⟩) rfl (fun r12 _ => ?_)
    refine r_putI (pc' := 88) hx (hd 50) fp_8_32 ht rfl (by decide) rfl (fun M13 => ?_)
    refine r_aload_n (pc' := 89) hx (hd 51) rfl 1 rfl rfl ?_
    refine r_get (pc' := 92) (v := .int (mI M13 t 10)) hx (hd 52) fl_8_32 ht rfl (by decide) rfl ?_
    refine r_iconst (pc' := 93) (v := (-1)) hx (hd 53) (by decide) rfl ?_
    refine r_jn2 137 (fun v14 M15 => [(0, .ref t), (3, .int v1), (4, .int v14)]) (fun v14 M15 => []) (fun v14 M15 => M15) (fun v14 M15 => ?_) (fun j16 hj17 => ?_)
    · skip
      refine r_aload_n (pc' := 138) hx (hd 79) rfl 0 rfl rfl ?_
      refine r_iload_n (pc' := 139) hx (hd 80) rfl 1 rfl rfl ?_
      refine r_iload (pc' := 141) hx (hd 81) 2 rfl rfl ?_
      refine r_callVU (pc' := 144) (As := [.int v1, .int v14]) (rest := []) hx (hd 82) md_X8_addPegs mi_X8_addPegs ms_X8_addPegs ml_8_96 (cX8_addPegs (xl x) w hL t ht v1 v14 M15) ht rfl (by decide) ⟨Nat.le_of_ble_eq_true rfl, Nat.le_of_ble_eq_true rfl⟩ rfl rfl (Nat.le_of_ble_eq_true rfl) rfl (fun M18 => ?_)
      refine r_iload (pc' := 146) hx (hd 83) 2 rfl rfl ?_
      exact r_iret hx (hd 84) rfl rfl hz
    refine r_icmp_ne (tgt := 137) (pc' := 96) hx (hd 54) (by decide) (fun _ => ?_) rfl (fun _ => ?_)
    · skip
      refine r_sub [1, 4, 0] rfl ?_
      exact hj17 r11 M13
    · skip
      refine r_iload (pc' := 98) hx (hd 55) 0 rfl rfl ?_
      refine r_aload_n (pc' := 99) hx (hd 56) rfl 1 rfl rfl ?_
      refine r_get (pc' := 102) (v := .int (mI M13 t 9)) hx (hd 57) fl_8_54 ht rfl (by decide) rfl ?_
      refine r_bipush (pc' := 104) (v := 31) hx (hd 58) (by decide) rfl ?_
      refine r_jn1 112 (fun v19 => [(0, .ref t), (2, .ref p2), (3, .int v1)]) (fun v19 => [.int v19, .int r11]) (fun v19 => M13) (fun v19 => ?_) (fun j20 hj21 => ?_)
      · skip
        refine r_iadd (pc' := 113) hx (hd 63) rfl ?_
        refine r_nmI (fun v22 => ?_)
        refine r_istore (pc' := 115) (L' := [(4, .int v22), (0, .ref t), (2, .ref p2), (3, .int v1)]) hx (hd 64) (by decide) rfl rfl ?_
        refine r_aload_n (pc' := 116) hx (hd 65) rfl 1 rfl rfl ?_
        refine r_iconst (pc' := 117) (v := 0) hx (hd 66) (by decide) rfl ?_
        refine r_putI (pc' := 120) hx (hd 67) fp_8_54 ht rfl (by decide) rfl (fun M23 => ?_)
        refine r_aload_n (pc' := 121) hx (hd 68) rfl 1 rfl rfl ?_
        refine r_iconst (pc' := 122) (v := 0) hx (hd 69) (by decide) rfl ?_
        refine r_putI (pc' := 125) hx (hd 70) fp_8_51 ht rfl (by decide) rfl (fun M24 => ?_)
        refine r_aload_n (pc' := 126) hx (hd 71) rfl 1 rfl rfl ?_
        refine r_aload_n (pc' := 127) hx (hd 72) rfl 1 rfl rfl ?_
        refine r_iconst (pc' := 128) (v := 1) hx (hd 73) (by decide) rfl ?_
        refine r_iload_n (pc' := 129) hx (hd 74) rfl 3 rfl rfl ?_
        refine r_isub (pc' := 130) hx (hd 75) rfl ?_
        refine r_aload_n (pc' := 131) hx (hd 76) rfl 2 rfl rfl ?_
        refine r_callV (pc' := 134) (As := [.int (1 - v1), .ref p2]) (rest := [.ref t]) hx (hd 77) md_X8_firstWhoCan mi_X8_firstWhoCan ms_X8_firstWhoCan ml_8_100 (cX8_firstWhoCan (xl x) w hL t ht (1 - v1) p2 hp2 M24) ht rfl (by decide) ⟨Nat.le_of_ble_eq_true rfl, Nat.le_of_ble_eq_true rfl⟩ rfl rfl (Nat.le_of_ble_eq_true rfl) (fun r25 => .int r25 :: [.ref t]) (fun _ => M24) (fun _ => ⟨rfl, rfl⟩) rfl (fun r25 _ => ?_)
        refine r_putI (pc' := 137) hx (hd 78) fp_8_32 ht rfl (by decide) rfl (fun M26 => ?_)
        refine r_sub [1, 3, 0] rfl ?_
        exact hj17 v22 M26
      refine r_icmp_ne (tgt := 111) (pc' := 107) hx (hd 59) (by decide) (fun _ => ?_) rfl (fun _ => ?_)
      · skip
        refine r_iconst (pc' := 112) (v := 1) hx (hd 62) (by decide) rfl ?_
        refine r_sub [1, 3, 4] rfl ?_
        exact hj21 1
      · skip
        refine r_iconst (pc' := 108) (v := 0) hx (hd 60) (by decide) rfl ?_
        refine r_goto (tgt := 112) hx (hd 61) (by decide) ?_
        refine r_sub [1, 3, 4] rfl ?_
        exact hj21 0
  refine r_icmp_ge (tgt := 50) (pc' := 30) hx (hd 15) (by decide) (fun _ => ?_) rfl (fun _ => ?_)
  · skip
    refine r_sub [1, 2, 3, 0] rfl ?_
    exact hj7 M3
  · skip
    refine r_aload_n (pc' := 31) hx (hd 16) rfl 1 rfl rfl ?_
    refine r_get (pc' := 34) (v := .ref (t + 3)) hx (hd 17) fl_8_19 ht rfl (by decide) rfl ?_
    have h27 := hL.1 _ _ _ ht 2 3 20 8 rfl
    refine r_aload_n (pc' := 35) hx (hd 18) rfl 1 rfl rfl ?_
    refine r_get (pc' := 38) (v := .int (mI M3 t 8)) hx (hd 19) fl_8_51 ht rfl (by decide) rfl ?_
    refine r_iload_n (pc' := 39) hx (hd 20) rfl 2 rfl rfl ?_
    refine r_gd (fun h29 => ?_)
    refine r_iast (pc' := 40) (k := ix (mI M3 t 8)) hx (hd 21) h27 h29 rfl rfl (fun M28 => ?_)
    refine r_aload_n (pc' := 41) hx (hd 22) rfl 1 rfl rfl ?_
    refine r_dup (pc' := 42) hx (hd 23) rfl rfl ?_
    refine r_get (pc' := 45) (v := .int (mI M28 t 8)) hx (hd 24) fl_8_51 ht rfl (by decide) rfl ?_
    refine r_iconst (pc' := 46) (v := 1) hx (hd 25) (by decide) rfl ?_
    refine r_iadd (pc' := 47) hx (hd 26) rfl ?_
    refine r_putI (pc' := 50) hx (hd 27) fp_8_51 ht rfl (by decide) rfl (fun M30 => ?_)
    refine r_sub [1, 2, 3, 0] rfl ?_
    exact hj7 M30
abbrev yX11_makePlay : MethodName := ({ cls := "CribbageRoom", name := "makePlay", desc := "(II)I" } : Jvm.MethodName)
def tbX11_makePlay : List (Nat × Instr × Nat) := [(0, .iload_n 1, 1), (1, .invokestatic 106, 3), (4, .ifCond .eq 10, 3), (7, .iload_n 2, 1), (8, .invokestatic 141, 3), (11, .ifCond .ne 5, 3), (14, .iconst (-1), 1), (15, .ireturn, 1), (16, .aload_n 0, 1), (17, .getfield 12, 3), (20, .getfield 113, 3), (23, .astore_n 3, 1), (24, .aload_n 3, 1), (25, .getfield 181, 3), (28, .iload_n 2, 1), (29, .if_icmp .ne 19, 3), (32, .aload_n 3, 1), (33, .iload_n 2, 1), (34, .aload_n 0, 1), (35, .getfield 57, 3), (38, .invokevirtual 335, 3), (41, .iload_n 1, 1), (42, .invokestatic 128, 3), (45, .ifCond .ne 6, 3), (48, .bipush (-3), 2), (50, .ireturn, 1), (51, .aload_n 0, 1), (52, .getfield 23, 3), (55, .aload_n 3, 1), (56, .iconst 2, 1), (57, .invokevirtual 387, 3), (60, .aload_n 3, 1), (61, .iload_n 1, 1), (62, .aload_n 0, 1), (63, .getfield 57, 3), (66, .invokevirtual 399, 3), (69, .ireturn, 1)]
theorem dX11_makePlay : ∀ q ∈ tbX11_makePlay, decode prog_1_method_48_code q.1 = .ok q.2 := by decide +kernel
set_option maxRecDepth 20000 in
theorem cX11_makePlay (l : Launch) (w : WX) (hL : Lay w) (t : Nat) (ht : Wat w t 11 0) (p1 : Int32) (p2 : Int32) (M : Mem) : Ct l w yX11_makePlay prog_1_method_48_code 4 (Option.some FieldType.int) 5 116 evIM emM [.ref t, .int p1, .int p2] M (FX11_makePlay t p1 p2 M) := by
  refine ct_of (by decide) (Nat.le_of_ble_eq_true rfl) (fun x hl hx hb hz => ?_)
  subst hl
  have hd : ∀ i, DAt (xc x).code (tbX11_makePlay[i]?) := fun i => by rw [hb]; exact dat_of dX11_makePlay i
  show C x w (Qn x w evIM emM) 4 0 [(0, .ref t), (1, .int p1), (2, .int p2)] [] M (FX11_makePlay t p1 p2 M)
  unfold FX11_makePlay
  refine r_iload_n (pc' := 1) hx (hd 0) rfl 1 rfl rfl ?_
  refine r_callS (pc' := 4) (As := [.int p1]) (rest := []) hx (hd 1) md_X11_isCard mst_X11_isCard ml_11_106 (cX11_isCard (xl x) w hL p1 M) ⟨Nat.le_of_ble_eq_true rfl, Nat.le_of_ble_eq_true rfl⟩ rfl rfl (Nat.le_of_ble_eq_true rfl) (fun r1 => .int r1 :: []) (fun _ => M) (fun _ => ⟨rfl, rfl⟩) rfl (fun r1 _ => ?_)
  refine r_jn0 14 ([]) ([]) (M) (?_) (fun j2 hj3 => ?_)
  · skip
    refine r_iconst (pc' := 15) (v := (-1)) hx (hd 6) (by decide) rfl ?_
    exact r_iret hx (hd 7) rfl rfl hz
  refine r_if_eq (tgt := 14) (pc' := 7) hx (hd 2) (by decide) (fun _ => ?_) rfl (fun _ => ?_)
  · skip
    refine r_sub [] rfl ?_
    exact hj3
  · skip
    refine r_iload_n (pc' := 8) hx (hd 3) rfl 2 rfl rfl ?_
    refine r_callS (pc' := 11) (As := [.int p2]) (rest := []) hx (hd 4) md_X11_isPlayer mst_X11_isPlayer ml_11_141 (cX11_isPlayer (xl x) w hL p2 M) ⟨Nat.le_of_ble_eq_true rfl, Nat.le_of_ble_eq_true rfl⟩ rfl rfl (Nat.le_of_ble_eq_true rfl) (fun r4 => .int r4 :: []) (fun _ => M) (fun _ => ⟨rfl, rfl⟩) rfl (fun r4 _ => ?_)
    refine r_if_ne (tgt := 16) (pc' := 14) hx (hd 5) (by decide) (fun _ => ?_) rfl (fun _ => ?_)
    · skip
      refine r_aload_n (pc' := 17) hx (hd 8) rfl 0 rfl rfl ?_
      refine r_get (pc' := 20) (v := .ref (t + 1)) hx (hd 9) fl_11_12 ht rfl (by decide) rfl ?_
      have h5 := hL.1 _ _ _ ht 0 1 6 0 rfl
      refine r_get (pc' := 23) (v := .ref ((t + 1) + 1)) hx (hd 10) fl_11_113 h5 rfl (by decide) rfl ?_
      have h6 := hL.1 _ _ _ h5 0 1 8 0 rfl
      refine r_astore_n (pc' := 24) (L' := [(3, .ref ((t + 1) + 1)), (0, .ref t), (1, .int p1), (2, .int p2)]) hx (hd 11) rfl (by decide) rfl rfl ?_
      refine r_aload_n (pc' := 25) hx (hd 12) rfl 0 rfl rfl ?_
      refine r_get (pc' := 28) (v := .int (mI M ((t + 1) + 1) 10)) hx (hd 13) fl_11_181 h6 rfl (by decide) rfl ?_
      refine r_iload_n (pc' := 29) hx (hd 14) rfl 3 rfl rfl ?_
      refine r_jn0 48 ([]) ([]) (M) (?_) (fun j7 hj8 => ?_)
      · skip
        refine r_bipush (pc' := 50) (v := (-3)) hx (hd 24) (by decide) rfl ?_
        exact r_iret hx (hd 25) rfl rfl hz
      refine r_icmp_ne (tgt := 48) (pc' := 32) hx (hd 15) (by decide) (fun _ => ?_) rfl (fun _ => ?_)
      · skip
        refine r_sub [] rfl ?_
        exact hj8
      · skip
        refine r_aload_n (pc' := 33) hx (hd 16) rfl 0 rfl rfl ?_
        refine r_iload_n (pc' := 34) hx (hd 17) rfl 3 rfl rfl ?_
        refine r_aload_n (pc' := 35) hx (hd 18) rfl 1 rfl rfl ?_
        refine r_get (pc' := 38) (v := .ref (t + 179)) hx (hd 19) fl_11_57 ht rfl (by decide) rfl ?_
        have h9 := hL.1 _ _ _ ht 8 179 10 0 rfl
        refine r_callV (pc' := 41) (As := [.int p2, .ref (t + 179)]) (rest := []) hx (hd 20) md_X8_playable mi_X8_playable ms_X8_playable ml_11_335 (cX8_playable (xl x) w hL ((t + 1) + 1) h6 p2 (t + 179) h9 M) h6 rfl (by decide) ⟨Nat.le_of_ble_eq_true rfl, Nat.le_of_ble_eq_true rfl⟩ rfl rfl (Nat.le_of_ble_eq_true rfl) (fun r10 => .long r10 :: []) (fun _ => M) (fun _ => ⟨rfl, rfl⟩) rfl (fun r10 _ => ?_)
        refine r_iload_n (pc' := 42) hx (hd 21) rfl 2 rfl rfl ?_
        refine r_callS (pc' := 45) (As := [.long r10, .int p1]) (rest := []) hx (hd 22) md_X11_has mst_X11_has ml_11_128 (cX11_has (xl x) w hL r10 p1 M) ⟨Nat.le_of_ble_eq_true rfl, Nat.le_of_ble_eq_true rfl⟩ rfl rfl (Nat.le_of_ble_eq_true rfl) (fun r11 => .int r11 :: []) (fun _ => M) (fun _ => ⟨rfl, rfl⟩) rfl (fun r11 _ => ?_)
        refine r_if_ne (tgt := 51) (pc' := 48) hx (hd 23) (by decide) (fun _ => ?_) rfl (fun _ => ?_)
        · skip
          refine r_aload_n (pc' := 52) hx (hd 26) rfl 1 rfl rfl ?_
          refine r_get (pc' := 55) (v := .ref (t + 29)) hx (hd 27) fl_11_23 ht rfl (by decide) rfl ?_
          have h12 := hL.1 _ _ _ ht 2 29 4 0 rfl
          refine r_aload_n (pc' := 56) hx (hd 28) rfl 0 rfl rfl ?_
          refine r_iconst (pc' := 57) (v := 2) hx (hd 29) (by decide) rfl ?_
          refine r_callVU (pc' := 60) (As := [.ref ((t + 1) + 1), .int 2]) (rest := []) hx (hd 30) md_X4_push mi_X4_push ms_X4_push ml_11_387 (cX4_push (xl x) w hL (t + 29) h12 ((t + 1) + 1) h6 2 M) h12 rfl (by decide) ⟨Nat.le_of_ble_eq_true rfl, Nat.le_of_ble_eq_true rfl⟩ rfl rfl (Nat.le_of_ble_eq_true rfl) rfl (fun M13 => ?_)
          refine r_aload_n (pc' := 61) hx (hd 31) rfl 0 rfl rfl ?_
          refine r_iload_n (pc' := 62) hx (hd 32) rfl 2 rfl rfl ?_
          refine r_aload_n (pc' := 63) hx (hd 33) rfl 1 rfl rfl ?_
          refine r_get (pc' := 66) (v := .ref (t + 179)) hx (hd 34) fl_11_57 ht rfl (by decide) rfl ?_
          have h14 := hL.1 _ _ _ ht 8 179 10 0 rfl
          refine r_callVI (pc' := 69) (As := [.int p1, .ref (t + 179)]) (rest := []) hx (hd 35) md_X8_putDown mi_X8_putDown ms_X8_putDown ml_11_399 (cX8_putDown (xl x) w hL ((t + 1) + 1) h6 p1 (t + 179) h14 M13) h6 rfl (by decide) ⟨Nat.le_of_ble_eq_true rfl, Nat.le_of_ble_eq_true rfl⟩ rfl rfl (Nat.le_of_ble_eq_true rfl) (fun r16 => .int r16 :: []) (fun _ => rfl) rfl (fun r16 M15 => ?_)
          exact r_iret hx (hd 36) rfl rfl hz
        · skip
          refine r_sub [] rfl ?_
          exact hj8
    · skip
      refine r_sub [] rfl ?_
      exact hj3
abbrev yJ_Arrays_fill_0 : MethodName := ({ cls := "java/util/Arrays", name := "fill", desc := "([II)V" } : Jvm.MethodName)
def tbJ_Arrays_fill_0 : List (Nat × Instr × Nat) := [(0, .iconst 0, 1), (1, .istore_n 2, 1), (2, .aload_n 0, 1), (3, .arraylength, 1), (4, .istore_n 3, 1), (5, .iload_n 2, 1), (6, .iload_n 3, 1), (7, .if_icmp .ge 13, 3), (10, .aload_n 0, 1), (11, .iload_n 2, 1), (12, .iload_n 1, 1), (13, .iastore, 1), (14, .iinc 2 1, 3), (17, .goto (-12), 3), (20, .return_, 1)]
theorem dJ_Arrays_fill_0 : ∀ q ∈ tbJ_Arrays_fill_0, decode prog_23_method_103_code q.1 = .ok q.2 := by decide +kernel
set_option maxRecDepth 20000 in
theorem cJ_Arrays_fill_0 (l : Launch) (w : WX) (hL : Lay w) (p0 n0 : Nat) (hp0 : Wat w p0 20 n0) (p1 : Int32) (M : Mem) : Ct l w yJ_Arrays_fill_0 prog_23_method_103_code 4 (Option.none : Option FieldType) 0 0 evU emU [.ref p0, .int p1] M (FJ_Arrays_fill_0 p0 n0 p1 M) := by
  refine ct_of (by decide) (Nat.le_of_ble_eq_true rfl) (fun x hl hx hb hz => ?_)
  subst hl
  have hd : ∀ i, DAt (xc x).code (tbJ_Arrays_fill_0[i]?) := fun i => by rw [hb]; exact dat_of dJ_Arrays_fill_0 i
  show C x w (Qn x w evU emU) 4 0 [(0, .ref p0), (1, .int p1)] [] M (FJ_Arrays_fill_0 p0 n0 p1 M)
  unfold FJ_Arrays_fill_0
  refine r_iconst (pc' := 1) (v := 0) hx (hd 0) (by decide) rfl ?_
  refine r_istore_n (pc' := 2) (L' := [(2, .int 0), (0, .ref p0), (1, .int p1)]) hx (hd 1) rfl (by decide) rfl rfl ?_
  refine r_aload_n (pc' := 3) hx (hd 2) rfl 1 rfl rfl ?_
  refine r_alen (pc' := 4) (v := (Int32.ofNat n0)) hx (hd 3) hp0 rfl rfl ?_
  refine r_nmI (fun v1 => ?_)
  refine r_istore_n (pc' := 5) (L' := [(3, .int v1), (2, .int 0), (0, .ref p0), (1, .int p1)]) hx (hd 4) rfl (by decide) rfl rfl ?_
  refine r_sub [2, 3, 1, 0] rfl ?_
  refine r_wl2 (fun v2 M3 => [(0, .ref p0), (1, .int p1), (2, .int v2), (3, .int v1)]) (fun v2 M3 => []) (fun v2 M3 => M3) (fun v2 M3 rec4 ih5 => ?_) fuel 0 M
  refine r_iload_n (pc' := 6) hx (hd 5) rfl 2 rfl rfl ?_
  refine r_iload_n (pc' := 7) hx (hd 6) rfl 3 rfl rfl ?_
  refine r_icmp_ge (tgt := 20) (pc' := 10) hx (hd 7) (by decide) (fun _ => ?_) rfl (fun _ => ?_)
  · skip
    exact r_vret hx (hd 14) rfl rfl hz
  · skip
    refine r_aload_n (pc' := 11) hx (hd 8) rfl 0 rfl rfl ?_
    refine r_iload_n (pc' := 12) hx (hd 9) rfl 2 rfl rfl ?_
    refine r_iload_n (pc' := 13) hx (hd 10) rfl 1 rfl rfl ?_
    refine r_gd (fun h7 => ?_)
    refine r_iast (pc' := 14) (k := ix v2) hx (hd 11) hp0 h7 rfl rfl (fun M6 => ?_)
    refine r_iinc (pc' := 17) (v := 1) hx (hd 12) 2 rfl (by decide) (by decide) (fun v8 => [(2, .int v8), (0, .ref p0), (1, .int p1), (3, .int v1)]) (fun _ => rfl) rfl (fun v8 => ?_)
    refine r_goto (tgt := 5) hx (hd 13) (by decide) ?_
    refine r_sub [1, 2, 0, 3] rfl ?_
    exact ih5 v8 M6
abbrev yJ_Integer_bitCount : MethodName := ({ cls := "java/lang/Integer", name := "bitCount", desc := "(I)I" } : Jvm.MethodName)
def tbJ_Integer_bitCount : List (Nat × Instr × Nat) := [(0, .iload_n 0, 1), (1, .iload_n 0, 1), (2, .iconst 1, 1), (3, .iushr, 1), (4, .ldc_w 265, 3), (7, .iand, 1), (8, .isub, 1), (9, .istore_n 0, 1), (10, .iload_n 0, 1), (11, .ldc_w 266, 3), (14, .iand, 1), (15, .iload_n 0, 1), (16, .iconst 2, 1), (17, .iushr, 1), (18, .ldc_w 266, 3), (21, .iand, 1), (22, .iadd, 1), (23, .istore_n 0, 1), (24, .iload_n 0, 1), (25, .iload_n 0, 1), (26, .iconst 4, 1), (27, .iushr, 1), (28, .iadd, 1), (29, .ldc_w 267, 3), (32, .iand, 1), (33, .istore_n 0, 1), (34, .iload_n 0, 1), (35, .iload_n 0, 1), (36, .bipush 8, 2), (38, .iushr, 1), (39, .iadd, 1), (40, .istore_n 0, 1), (41, .iload_n 0, 1), (42, .iload_n 0, 1), (43, .bipush 16, 2), (45, .iushr, 1), (46, .iadd, 1), (47, .istore_n 0, 1), (48, .iload_n 0, 1), (49, .bipush 63, 2), (51, .iand, 1), (52, .ireturn, 1)]
theorem dJ_Integer_bitCount : ∀ q ∈ tbJ_Integer_bitCount, decode prog_16_method_49_code q.1 = .ok q.2 := by decide +kernel
set_option maxRecDepth 20000 in
theorem cJ_Integer_bitCount (l : Launch) (w : WX) (hL : Lay w) (p0 : Int32) (M : Mem) : Ct l w yJ_Integer_bitCount prog_16_method_49_code 1 (Option.some FieldType.int) 0 0 evI (emC M) [.int p0] M (FJ_Integer_bitCount p0) := by
  refine ct_of (by decide) (Nat.le_of_ble_eq_true rfl) (fun x hl hx hb hz => ?_)
  subst hl
  have hd : ∀ i, DAt (xc x).code (tbJ_Integer_bitCount[i]?) := fun i => by rw [hb]; exact dat_of dJ_Integer_bitCount i
  show C x w (Qn x w evI (emC M)) 1 0 [(0, .int p0)] [] M (FJ_Integer_bitCount p0)
  unfold FJ_Integer_bitCount
  refine r_iload_n (pc' := 1) hx (hd 0) rfl 0 rfl rfl ?_
  refine r_iload_n (pc' := 2) hx (hd 1) rfl 0 rfl rfl ?_
  refine r_iconst (pc' := 3) (v := 1) hx (hd 2) (by decide) rfl ?_
  refine r_iushr (pc' := 4) hx (hd 3) rfl ?_
  refine r_ldcw (pc' := 7) hx (hd 4) kc_Integer_265 rfl ?_
  refine r_iand (pc' := 8) hx (hd 5) rfl ?_
  refine r_isub (pc' := 9) hx (hd 6) rfl ?_
  refine r_nmI (fun v1 => ?_)
  refine r_istore_n (pc' := 10) (L' := [(0, .int v1)]) hx (hd 7) rfl (by decide) rfl rfl ?_
  refine r_iload_n (pc' := 11) hx (hd 8) rfl 0 rfl rfl ?_
  refine r_ldcw (pc' := 14) hx (hd 9) kc_Integer_266 rfl ?_
  refine r_iand (pc' := 15) hx (hd 10) rfl ?_
  refine r_iload_n (pc' := 16) hx (hd 11) rfl 0 rfl rfl ?_
  refine r_iconst (pc' := 17) (v := 2) hx (hd 12) (by decide) rfl ?_
  refine r_iushr (pc' := 18) hx (hd 13) rfl ?_
  refine r_ldcw (pc' := 21) hx (hd 14) kc_Integer_266 rfl ?_
  refine r_iand (pc' := 22) hx (hd 15) rfl ?_
  refine r_iadd (pc' := 23) hx (hd 16) rfl ?_
  refine r_nmI (fun v2 => ?_)
  refine r_istore_n (pc' := 24) (L' := [(0, .int v2)]) hx (hd 17) rfl (by decide) rfl rfl ?_
  refine r_iload_n (pc' := 25) hx (hd 18) rfl 0 rfl rfl ?_
  refine r_iload_n (pc' := 26) hx (hd 19) rfl 0 rfl rfl ?_
  refine r_iconst (pc' := 27) (v := 4) hx (hd 20) (by decide) rfl ?_
  refine r_iushr (pc' := 28) hx (hd 21) rfl ?_
  refine r_iadd (pc' := 29) hx (hd 22) rfl ?_
  refine r_ldcw (pc' := 32) hx (hd 23) kc_Integer_267 rfl ?_
  refine r_iand (pc' := 33) hx (hd 24) rfl ?_
  refine r_nmI (fun v3 => ?_)
  refine r_istore_n (pc' := 34) (L' := [(0, .int v3)]) hx (hd 25) rfl (by decide) rfl rfl ?_
  refine r_iload_n (pc' := 35) hx (hd 26) rfl 0 rfl rfl ?_
  refine r_iload_n (pc' := 36) hx (hd 27) rfl 0 rfl rfl ?_
  refine r_bipush (pc' := 38) (v := 8) hx (hd 28) (by decide) rfl ?_
  refine r_iushr (pc' := 39) hx (hd 29) rfl ?_
  refine r_iadd (pc' := 40) hx (hd 30) rfl ?_
  refine r_nmI (fun v4 => ?_)
  refine r_istore_n (pc' := 41) (L' := [(0, .int v4)]) hx (hd 31) rfl (by decide) rfl rfl ?_
  refine r_iload_n (pc' := 42) hx (hd 32) rfl 0 rfl rfl ?_
  refine r_iload_n (pc' := 43) hx (hd 33) rfl 0 rfl rfl ?_
  refine r_bipush (pc' := 45) (v := 16) hx (hd 34) (by decide) rfl ?_
  refine r_iushr (pc' := 46) hx (hd 35) rfl ?_
  refine r_iadd (pc' := 47) hx (hd 36) rfl ?_
  refine r_nmI (fun v5 => ?_)
  refine r_istore_n (pc' := 48) (L' := [(0, .int v5)]) hx (hd 37) rfl (by decide) rfl rfl ?_
  refine r_iload_n (pc' := 49) hx (hd 38) rfl 0 rfl rfl ?_
  refine r_bipush (pc' := 51) (v := 63) hx (hd 39) (by decide) rfl ?_
  refine r_iand (pc' := 52) hx (hd 40) rfl ?_
  exact r_iret hx (hd 41) rfl rfl hz
abbrev yX2_takeFifteens : MethodName := ({ cls := "CribbageRoom$Four", name := "takeFifteens", desc := "()V" } : Jvm.MethodName)
def tbX2_takeFifteens : List (Nat × Instr × Nat) := [(0, .aload_n 0, 1), (1, .iconst 0, 1), (2, .putfield 62, 3), (5, .aload_n 0, 1), (6, .getfield 24, 3), (9, .iconst 0, 1), (10, .invokestatic 65, 3), (13, .iconst 1, 1), (14, .istore_n 1, 1), (15, .iload_n 1, 1), (16, .bipush 16, 2), (18, .if_icmp .ge 137, 3), (21, .iconst 0, 1), (22, .istore_n 2, 1), (23, .iconst 0, 1), (24, .istore_n 3, 1), (25, .iload_n 3, 1), (26, .iconst 4, 1), (27, .if_icmp .ge 31, 3), (30, .iload_n 2, 1), (31, .iload_n 1, 1), (32, .iload_n 3, 1), (33, .ishr, 1), (34, .iconst 1, 1), (35, .iand, 1), (36, .aload_n 0, 1), (37, .getfield 27, 3), (40, .aload_n 0, 1), (41, .getfield 9, 3), (44, .iload_n 3, 1), (45, .iaload, 1), (46, .invokevirtual 71, 3), (49, .imul, 1), (50, .iadd, 1), (51, .istore_n 2, 1), (52, .iinc 3 1, 3), (55, .goto (-30), 3), (58, .iload_n 1, 1), (59, .invokestatic 77, 3), (62, .istore_n 3, 1), (63, .aload_n 0, 1), (64, .getfield 27, 3), (67, .getfield 82, 3), (70, .iload_n 2, 1), (71, .isub, 1), (72, .istore 4, 2), (74, .iload 4, 2), (76, .ifCond .ne 33, 3), (79, .iload_n 3, 1), (80, .iconst 2, 1), (81, .if_icmp .lt 28, 3), (84, .aload_n 0, 1), (85, .dup, 1), (86, .getfield 62, 3), (89, .aload_n 0, 1), (90, .getfield 27, 3), (93, .iconst 1, 1), (94, .aload_n 0, 1), (95, .getfield 31, 3), (98, .iload_n 3, 1), (99, .invokevirtual 85, 3), (102, .iadd, 1), (103, .putfield 62, 3), (106, .goto 43, 3), (109, .iload 4, 2), (111, .ifCond .le 38, 3), (114, .iload 4, 2), (116, .aload_n 0, 1), (117, .getfield 24, 3), (120, .arraylength, 1), (121, .if_icmp .ge 28, 3), (124, .aload_n 0, 1), (125, .getfield 24, 3), (128, .iload 4, 2), (130, .dup2, 1), (131, .iaload, 1), (132, .aload_n 0, 1), (133, .getfield 27, 3), (136, .iconst 1, 1), (137, .aload_n 0, 1), (138, .getfield 31, 3), (141, .iload_n 3, 1), (142, .iconst 1, 1), (143, .iadd, 1), (144, .invokevirtual 85, 3), (147, .iadd, 1), (148, .iastore, 1), (149, .iinc 1 1, 3), (152, .goto (-137), 3), (155, .return_, 1)]
theorem dX2_takeFifteens : ∀ q ∈ tbX2_takeFifteens, decode prog_4_method_3_code q.1 = .ok q.2 := by decide +kernel
set_option maxRecDepth 20000 in
theorem cX2_takeFifteens (l : Launch) (w : WX) (hL : Lay w) (t : Nat) (ht : Wat w t 2 0) (M : Mem) : Ct l w yX2_takeFifteens prog_4_method_3_code 5 (Option.none : Option FieldType) 2 41 evU emU [.ref t] M (FX2_takeFifteens t M) := by
  refine ct_of (by decide) (Nat.le_of_ble_eq_true rfl) (fun x hl hx hb hz => ?_)
  subst hl
  have hd : ∀ i, DAt (xc x).code (tbX2_takeFifteens[i]?) := fun i => by rw [hb]; exact dat_of dX2_takeFifteens i
  show C x w (Qn x w evU emU) 5 0 [(0, .ref t)] [] M (FX2_takeFifteens t M)
  unfold FX2_takeFifteens
  refine r_aload_n (pc' := 1) hx (hd 0) rfl 0 rfl rfl ?_
  refine r_iconst (pc' := 2) (v := 0) hx (hd 1) (by decide) rfl ?_
  refine r_putI (pc' := 5) hx (hd 2) fp_2_62 ht rfl (by decide) rfl (fun M1 => ?_)
  refine r_aload_n (pc' := 6) hx (hd 3) rfl 0 rfl rfl ?_
  refine r_get (pc' := 9) (v := .ref (t + 5)) hx (hd 4) fl_2_24 ht rfl (by decide) rfl ?_
  have h2 := hL.1 _ _ _ ht 4 5 20 32 rfl
  refine r_iconst (pc' := 10) (v := 0) hx (hd 5) (by decide) rfl ?_
  refine r_callSU (pc' := 13) (As := [.ref (t + 5), .int 0]) (rest := []) hx (hd 6) md_J_Arrays_fill_0 mst_J_Arrays_fill_0 ml_2_65 (cJ_Arrays_fill_0 (xl x) w hL (t + 5) 32 h2 0 M1) ⟨Nat.le_of_ble_eq_true rfl, Nat.le_of_ble_eq_true rfl⟩ rfl rfl (Nat.le_of_ble_eq_true rfl) rfl (fun M3 => ?_)
  refine r_iconst (pc' := 14) (v := 1) hx (hd 7) (by decide) rfl ?_
  refine r_istore_n (pc' := 15) (L' := [(1, .int 1), (0, .ref t)]) hx (hd 8) rfl (by decide) rfl rfl ?_
  refine r_sub [1, 0] rfl ?_
  refine r_wl2 (fun v4 M5 => [(0, .ref t), (1, .int v4)]) (fun v4 M5 => []) (fun v4 M5 => M5) (fun v4 M5 rec6 ih7 => ?_) fuel 1 M3
  refine r_iload_n (pc' := 16) hx (hd 9) rfl 1 rfl rfl ?_
  refine r_bipush (pc' := 18) (v := 16) hx (hd 10) (by decide) rfl ?_
  refine r_icmp_ge (tgt := 155) (pc' := 21) hx (hd 11) (by decide) (fun _ => ?_) rfl (fun _ => ?_)
  · skip
    exact r_vret hx (hd 89) rfl rfl hz
  · skip
    refine r_iconst (pc' := 22) (v := 0) hx (hd 12) (by decide) rfl ?_
    refine r_istore_n (pc' := 23) (L' := [(2, .int 0), (0, .ref t), (1, .int v4)]) hx (hd 13) rfl (by decide) rfl rfl ?_
    refine r_iconst (pc' := 24) (v := 0) hx (hd 14) (by decide) rfl ?_
    refine r_istore_n (pc' := 25) (L' := [(3, .int 0), (2, .int 0), (0, .ref t), (1, .int v4)]) hx (hd 15) rfl (by decide) rfl rfl ?_
    refine r_sub [2, 3, 1, 0] rfl ?_
    refine r_wl2 (fun v8 v9 => [(0, .ref t), (1, .int v4), (2, .int v8), (3, .int v9)]) (fun v8 v9 => []) (fun v8 v9 => M5) (fun v8 v9 rec10 ih11 => ?_) fuel 0 0
    refine r_iload_n (pc' := 26) hx (hd 16) rfl 3 rfl rfl ?_
    refine r_iconst (pc' := 27) (v := 4) hx (hd 17) (by decide) rfl ?_
    refine r_icmp_ge (tgt := 58) (pc' := 30) hx (hd 18) (by decide) (fun _ => ?_) rfl (fun _ => ?_)
    · skip
      refine r_iload_n (pc' := 59) hx (hd 37) rfl 1 rfl rfl ?_
      refine r_callS (pc' := 62) (As := [.int v4]) (rest := []) hx (hd 38) md_J_Integer_bitCount mst_J_Integer_bitCount ml_2_77 (cJ_Integer_bitCount (xl x) w hL v4 M5) ⟨Nat.le_of_ble_eq_true rfl, Nat.le_of_ble_eq_true rfl⟩ rfl rfl (Nat.le_of_ble_eq_true rfl) (fun r12 => .int r12 :: []) (fun _ => M5) (fun _ => ⟨rfl, rfl⟩) rfl (fun r12 _ => ?_)
      refine r_istore_n (pc' := 63) (L' := [(3, .int r12), (0, .ref t), (1, .int v4), (2, .int v8)]) hx (hd 39) rfl (by decide) rfl rfl ?_
      refine r_aload_n (pc' := 64) hx (hd 40) rfl 1 rfl rfl ?_
      refine r_get (pc' := 67) (v := va_rf (mR M5 t 5)) hx (hd 41) fl_2_27 ht rfl (by decide) rfl ?_
      refine r_wt (fun wt15 => ?_)
      refine r_nmR (fun v13 hn14 => ?_)
      refine r_bd (fun b16 e17 => ?_)
      have h18 := (fun b hb => wt15 _ _ _ ht 5 10 b rfl (hn14 ▸ hb)) b16 e17
      subst e17
      refine r_get (pc' := 70) (v := .int (mI M5 b16 4)) hx (hd 42) fl_2_82 h18 rfl (by decide) rfl ?_
      refine r_iload_n (pc' := 71) hx (hd 43) rfl 3 rfl rfl ?_
      refine r_isub (pc' := 72) hx (hd 44) rfl ?_
      refine r_nmI (fun v19 => ?_)
      refine r_istore (pc' := 74) (L' := [(4, .int v19), (3, .int r12), (0, .ref t), (1, .int v4), (2, .int v8)]) hx (hd 45) (by decide) rfl rfl ?_
      refine r_iload (pc' := 76) hx (hd 46) 0 rfl rfl ?_
      refine r_jn1 149 (fun M20 => [(0, .ref t), (1, .int v4)]) (fun M20 => []) (fun M20 => M20) (fun M20 => ?_) (fun j21 hj22 => ?_)
      · skip
        refine r_iinc (pc' := 152) (v := 1) hx (hd 87) 1 rfl (by decide) (by decide) (fun v23 => [(1, .int v23), (0, .ref t)]) (fun _ => rfl) rfl (fun v23 => ?_)
        refine r_goto (tgt := 15) hx (hd 88) (by decide) ?_
        refine r_sub [1, 0] rfl ?_
        exact ih7 v23 M20
      refine r_jn0 109 ([(0, .ref t), (1, .int v4), (3, .int r12), (4, .int v19)]) ([]) (M5) (?_) (fun j24 hj25 => ?_)
      · skip
        refine r_iload (pc' := 111) hx (hd 64) 3 rfl rfl ?_
        refine r_if_le (tgt := 149) (pc' := 114) hx (hd 65) (by decide) (fun _ => ?_) rfl (fun _ => ?_)
        · skip
          refine r_sub [0, 1] rfl ?_
          exact hj22 M5
        · skip
          refine r_iload (pc' := 116) hx (hd 66) 3 rfl rfl ?_
          refine r_aload_n (pc' := 117) hx (hd 67) rfl 0 rfl rfl ?_
          refine r_get (pc' := 120) (v := .ref (t + 5)) hx (hd 68) fl_2_24 ht rfl (by decide) rfl ?_
          have h26 := hL.1 _ _ _ ht 4 5 20 32 rfl
          refine r_alen (pc' := 121) (v := 32) hx (hd 69) h26 (by decide) rfl ?_
          refine r_icmp_ge (tgt := 149) (pc' := 124) hx (hd 70) (by decide) (fun _ => ?_) rfl (fun _ => ?_)
          · skip
            refine r_sub [0, 1] rfl ?_
            exact hj22 M5
          · skip
            refine r_aload_n (pc' := 125) hx (hd 71) rfl 0 rfl rfl ?_
            refine r_get (pc' := 128) (v := .ref (t + 5)) hx (hd 72) fl_2_24 ht rfl (by decide) rfl ?_
            have h27 := hL.1 _ _ _ ht 4 5 20 32 rfl
            refine r_iload (pc' := 130) hx (hd 73) 3 rfl rfl ?_
            refine r_dup2 (pc' := 131) hx (hd 74) rfl rfl rfl ?_
            refine r_gd (fun h28 => ?_)
            refine r_iald (pc' := 132) (k := ix v19) hx (hd 75) h27 h28 rfl rfl ?_
            refine r_aload_n (pc' := 133) hx (hd 76) rfl 0 rfl rfl ?_
            refine r_get (pc' := 136) (v := va_rf (mR M5 t 5)) hx (hd 77) fl_2_27 ht rfl (by decide) rfl ?_
            refine r_wt (fun wt31 => ?_)
            refine r_nmR (fun v29 hn30 => ?_)
            refine r_iconst (pc' := 137) (v := 1) hx (hd 78) (by decide) rfl ?_
            refine r_aload_n (pc' := 138) hx (hd 79) rfl 0 rfl rfl ?_
            refine r_get (pc' := 141) (v := .int (mI M5 t 6)) hx (hd 80) fl_2_31 ht rfl (by decide) rfl ?_
            refine r_iload_n (pc' := 142) hx (hd 81) rfl 2 rfl rfl ?_
            refine r_iconst (pc' := 143) (v := 1) hx (hd 82) (by decide) rfl ?_
            refine r_iadd (pc' := 144) hx (hd 83) rfl ?_
            refine r_bd (fun b32 e33 => ?_)
            have h34 := (fun b hb => wt31 _ _ _ ht 5 10 b rfl (hn30 ▸ hb)) b32 e33
            subst e33
            refine r_callV (pc' := 147) (As := [.int 1, .int (mI M5 t 6), .int (r12 + 1)]) (rest := [.int (mI M5 (t + 5) (ix v19)), .int v19, .ref (t + 5)]) hx (hd 84) md_X10_countOf mi_X10_countOf ms_X10_countOf ml_2_85 (cX10_countOf (xl x) w hL b32 h34 1 (mI M5 t 6) (r12 + 1) M5) h34 rfl (by decide) ⟨Nat.le_of_ble_eq_true rfl, Nat.le_of_ble_eq_true rfl⟩ rfl rfl (Nat.le_of_ble_eq_true rfl) (fun r35 => .int r35 :: [.int (mI M5 (t + 5) (ix v19)), .int v19, .ref (t + 5)]) (fun _ => M5) (fun _ => ⟨rfl, rfl⟩) rfl (fun r35 _ => ?_)
            refine r_iadd (pc' := 148) hx (hd 85) rfl ?_
            refine r_gd (fun h37 => ?_)
            refine r_iast (pc' := 149) (k := ix v19) hx (hd 86) h27 h37 rfl rfl (fun M36 => ?_)
            refine r_sub [0, 1] rfl ?_
            exact hj22 M36
      refine r_if_ne (tgt := 109) (pc' := 79) hx (hd 47) (by decide) (fun _ => ?_) rfl (fun _ => ?_)
      · skip
        refine r_sub [2, 3, 1, 0] rfl ?_
        exact hj25
      · skip
        refine r_iload_n (pc' := 80) hx (hd 48) rfl 1 rfl rfl ?_
        refine r_iconst (pc' := 81) (v := 2) hx (hd 49) (by decide) rfl ?_
        refine r_icmp_lt (tgt := 109) (pc' := 84) hx (hd 50) (by decide) (fun _ => ?_) rfl (fun _ => ?_)
        · skip
          refine r_sub [2, 3, 1, 0] rfl ?_
          exact hj25
        · skip
          refine r_aload_n (pc' := 85) hx (hd 51) rfl 2 rfl rfl ?_
          refine r_dup (pc' := 86) hx (hd 52) rfl rfl ?_
          refine r_get (pc' := 89) (v := .int (mI M5 t 7)) hx (hd 53) fl_2_62 ht rfl (by decide) rfl ?_
          refine r_aload_n (pc' := 90) hx (hd 54) rfl 2 rfl rfl ?_
          refine r_get (pc' := 93) (v := va_rf (mR M5 t 5)) hx (hd 55) fl_2_27 ht rfl (by decide) rfl ?_
          refine r_wt (fun wt40 => ?_)
          refine r_nmR (fun v38 hn39 => ?_)
          refine r_iconst (pc' := 94) (v := 1) hx (hd 56) (by decide) rfl ?_
          refine r_aload_n (pc' := 95) hx (hd 57) rfl 2 rfl rfl ?_
          refine r_get (pc' := 98) (v := .int (mI M5 t 6)) hx (hd 58) fl_2_31 ht rfl (by decide) rfl ?_
          refine r_iload_n (pc' := 99) hx (hd 59) rfl 1 rfl rfl ?_
          refine r_bd (fun b41 e42 => ?_)
          have h43 := (fun b hb => wt40 _ _ _ ht 5 10 b rfl (hn39 ▸ hb)) b41 e42
          subst e42
          refine r_callV (pc' := 102) (As := [.int 1, .int (mI M5 t 6), .int r12]) (rest := [.int (mI M5 t 7), .ref t]) hx (hd 60) md_X10_countOf mi_X10_countOf ms_X10_countOf ml_2_85 (cX10_countOf (xl x) w hL b41 h43 1 (mI M5 t 6) r12 M5) h43 rfl (by decide) ⟨Nat.le_of_ble_eq_true rfl, Nat.le_of_ble_eq_true rfl⟩ rfl rfl (Nat.le_of_ble_eq_true rfl) (fun r44 => .int r44 :: [.int (mI M5 t 7), .ref t]) (fun _ => M5) (fun _ => ⟨rfl, rfl⟩) rfl (fun r44 _ => ?_)
          refine r_iadd (pc' := 103) hx (hd 61) rfl ?_
          refine r_putI (pc' := 106) hx (hd 62) fp_2_62 ht rfl (by decide) rfl (fun M45 => ?_)
          refine r_goto (tgt := 149) hx (hd 63) (by decide) ?_
          refine r_sub [2, 3] rfl ?_
          exact hj22 M45
    · skip
      refine r_iload_n (pc' := 31) hx (hd 19) rfl 2 rfl rfl ?_
      refine r_iload_n (pc' := 32) hx (hd 20) rfl 1 rfl rfl ?_
      refine r_iload_n (pc' := 33) hx (hd 21) rfl 3 rfl rfl ?_
      refine r_ishr (pc' := 34) hx (hd 22) rfl ?_
      refine r_iconst (pc' := 35) (v := 1) hx (hd 23) (by decide) rfl ?_
      refine r_iand (pc' := 36) hx (hd 24) rfl ?_
      refine r_aload_n (pc' := 37) hx (hd 25) rfl 0 rfl rfl ?_
      refine r_get (pc' := 40) (v := va_rf (mR M5 t 5)) hx (hd 26) fl_2_27 ht rfl (by decide) rfl ?_
      refine r_wt (fun wt48 => ?_)
      refine r_nmR (fun v46 hn47 => ?_)
      refine r_aload_n (pc' := 41) hx (hd 27) rfl 0 rfl rfl ?_
      refine r_get (pc' := 44) (v := .ref (t + 1)) hx (hd 28) fl_2_9 ht rfl (by decide) rfl ?_
      have h49 := hL.1 _ _ _ ht 0 1 20 4 rfl
      refine r_iload_n (pc' := 45) hx (hd 29) rfl 3 rfl rfl ?_
      refine r_gd (fun h50 => ?_)
      refine r_iald (pc' := 46) (k := ix v9) hx (hd 30) h49 h50 rfl rfl ?_
      refine r_bd (fun b51 e52 => ?_)
      have h53 := (fun b hb => wt48 _ _ _ ht 5 10 b rfl (hn47 ▸ hb)) b51 e52
      subst e52
      refine r_callV (pc' := 49) (As := [.int (mI M5 (t + 1) (ix v9))]) (rest := [.int ((v4 >>> (v9 &&& 31)) &&& 1), .int v8]) hx (hd 31) md_X10_valueOf mi_X10_valueOf ms_X10_valueOf ml_2_71 (cX10_valueOf (xl x) w hL b51 h53 (mI M5 (t + 1) (ix v9)) M5) h53 rfl (by decide) ⟨Nat.le_of_ble_eq_true rfl, Nat.le_of_ble_eq_true rfl⟩ rfl rfl (Nat.le_of_ble_eq_true rfl) (fun r54 => .int r54 :: [.int ((v4 >>> (v9 &&& 31)) &&& 1), .int v8]) (fun _ => M5) (fun _ => ⟨rfl, rfl⟩) rfl (fun r54 _ => ?_)
      refine r_imul (pc' := 50) hx (hd 32) rfl ?_
      refine r_iadd (pc' := 51) hx (hd 33) rfl ?_
      refine r_nmI (fun v55 => ?_)
      refine r_istore_n (pc' := 52) (L' := [(2, .int v55), (0, .ref t), (1, .int v4), (3, .int v9)]) hx (hd 34) rfl (by decide) rfl rfl ?_
      refine r_iinc (pc' := 55) (v := 1) hx (hd 35) 3 rfl (by decide) (by decide) (fun v56 => [(3, .int v56), (2, .int v55), (0, .ref t), (1, .int v4)]) (fun _ => rfl) rfl (fun v56 => ?_)
      refine r_goto (tgt := 25) hx (hd 36) (by decide) ?_
      refine r_sub [2, 3, 1, 0] rfl ?_
      exact ih11 v55 v56
abbrev yX10_runsOf : MethodName := ({ cls := "CribbageRoom$Worth", name := "runsOf", desc := "([II)I" } : Jvm.MethodName)
def tbX10_runsOf : List (Nat × Instr × Nat) := [(0, .iconst 0, 1), (1, .istore_n 3, 1), (2, .iconst 1, 1), (3, .istore 4, 2), (5, .iconst 0, 1), (6, .istore 5, 2), (8, .iload 5, 2), (10, .bipush 13, 2), (12, .if_icmp .gt 79, 3), (15, .iload 5, 2), (17, .aload_n 1, 1), (18, .arraylength, 1), (19, .if_icmp .gt 72, 3), (22, .iload 5, 2), (24, .bipush 13, 2), (26, .if_icmp .ge 17, 3), (29, .iload 5, 2), (31, .aload_n 1, 1), (32, .arraylength, 1), (33, .if_icmp .ge 10, 3), (36, .aload_n 1, 1), (37, .iload 5, 2), (39, .iaload, 1), (40, .goto 4, 3), (43, .iconst 0, 1), (44, .istore 6, 2), (46, .iload 6, 2), (48, .ifCond .le 16, 3), (51, .iinc 3 1, 3), (54, .iload 4, 2), (56, .iload 6, 2), (58, .imul, 1), (59, .istore 4, 2), (61, .goto 24, 3), (64, .iload_n 3, 1), (65, .iconst 3, 1), (66, .if_icmp .lt 14, 3), (69, .iload 4, 2), (71, .aload_n 0, 1), (72, .iconst 3, 1), (73, .iload_n 2, 1), (74, .iload_n 3, 1), (75, .invokevirtual 129, 3), (78, .imul, 1), (79, .ireturn, 1), (80, .iconst 0, 1), (81, .istore_n 3, 1), (82, .iconst 1, 1), (83, .istore 4, 2), (85, .iinc 5 1, 3), (88, .goto (-80), 3), (91, .iconst 0, 1), (92, .ireturn, 1)]
theorem dX10_runsOf : ∀ q ∈ tbX10_runsOf, decode prog_12_method_11_code q.1 = .ok q.2 := by decide +kernel
set_option maxRecDepth 20000 in
theorem cX10_runsOf (l : Launch) (w : WX) (hL : Lay w) (t : Nat) (ht : Wat w t 10 0) (p1 n1 : Nat) (hp1 : Wat w p1 20 n1) (p2 : Int32) (M : Mem) : Ct l w yX10_runsOf prog_12_method_11_code 7 (Option.some FieldType.int) 1 23 evI (emC M) [.ref t, .ref p1, .int p2] M (FX10_runsOf t p1 n1 p2 M) := by
  refine ct_of (by decide) (Nat.le_of_ble_eq_true rfl) (fun x hl hx hb hz => ?_)
  subst hl
  have hd : ∀ i, DAt (xc x).code (tbX10_runsOf[i]?) := fun i => by rw [hb]; exact dat_of dX10_runsOf i
  show C x w (Qn x w evI (emC M)) 7 0 [(0, .ref t), (1, .ref p1), (2, .int p2)] [] M (FX10_runsOf t p1 n1 p2 M)
  unfold FX10_runsOf
  refine r_iconst (pc' := 1) (v := 0) hx (hd 0) (by decide) rfl ?_
  refine r_istore_n (pc' := 2) (L' := [(3, .int 0), (0, .ref t), (1, .ref p1), (2, .int p2)]) hx (hd 1) rfl (by decide) rfl rfl ?_
  refine r_iconst (pc' := 3) (v := 1) hx (hd 2) (by decide) rfl ?_
  refine r_istore (pc' := 5) (L' := [(4, .int 1), (3, .int 0), (0, .ref t), (1, .ref p1), (2, .int p2)]) hx (hd 3) (by decide) rfl rfl ?_
  refine r_iconst (pc' := 6) (v := 0) hx (hd 4) (by decide) rfl ?_
  refine r_istore (pc' := 8) (L' := [(5, .int 0), (4, .int 1), (3, .int 0), (0, .ref t), (1, .ref p1), (2, .int p2)]) hx (hd 5) (by decide) rfl rfl ?_
  refine r_sub [3, 4, 5, 2, 1, 0] rfl ?_
  refine r_wl3 (fun v1 v2 v3 => [(0, .ref t), (1, .ref p1), (2, .int p2), (3, .int v1), (4, .int v2), (5, .int v3)]) (fun v1 v2 v3 => []) (fun v1 v2 v3 => M) (fun v1 v2 v3 rec4 ih5 => ?_) fuel 0 1 0
  refine r_iload (pc' := 10) hx (hd 6) 5 rfl rfl ?_
  refine r_bipush (pc' := 12) (v := 13) hx (hd 7) (by decide) rfl ?_
  refine r_jn0 91 ([]) ([]) (M) (?_) (fun j6 hj7 => ?_)
  · skip
    refine r_iconst (pc' := 92) (v := 0) hx (hd 51) (by decide) rfl ?_
    exact r_iret hx (hd 52) rfl rfl hz
  refine r_icmp_gt (tgt := 91) (pc' := 15) hx (hd 8) (by decide) (fun _ => ?_) rfl (fun _ => ?_)
  · skip
    refine r_sub [] rfl ?_
    exact hj7
  · skip
    refine r_iload (pc' := 17) hx (hd 9) 5 rfl rfl ?_
    refine r_aload_n (pc' := 18) hx (hd 10) rfl 1 rfl rfl ?_
    refine r_alen (pc' := 19) (v := (Int32.ofNat n1)) hx (hd 11) hp1 rfl rfl ?_
    refine r_icmp_gt (tgt := 91) (pc' := 22) hx (hd 12) (by decide) (fun _ => ?_) rfl (fun _ => ?_)
    · skip
      refine r_sub [] rfl ?_
      exact hj7
    · skip
      refine r_iload (pc' := 24) hx (hd 13) 5 rfl rfl ?_
      refine r_bipush (pc' := 26) (v := 13) hx (hd 14) (by decide) rfl ?_
      refine r_jn1 44 (fun v8 => [(0, .ref t), (1, .ref p1), (2, .int p2), (3, .int v1), (4, .int v2), (5, .int v3)]) (fun v8 => [.int v8]) (fun v8 => M) (fun v8 => ?_) (fun j9 hj10 => ?_)
      · skip
        refine r_istore (pc' := 46) (L' := [(6, .int v8), (0, .ref t), (1, .ref p1), (2, .int p2), (3, .int v1), (4, .int v2), (5, .int v3)]) hx (hd 25) (by decide) rfl rfl ?_
        refine r_iload (pc' := 48) hx (hd 26) 0 rfl rfl ?_
        refine r_jn2 85 (fun v11 v12 => [(0, .ref t), (1, .ref p1), (2, .int p2), (3, .int v11), (4, .int v12), (5, .int v3)]) (fun v11 v12 => []) (fun v11 v12 => M) (fun v11 v12 => ?_) (fun j13 hj14 => ?_)
        · skip
          refine r_iinc (pc' := 88) (v := 1) hx (hd 49) 5 rfl (by decide) (by decide) (fun v15 => [(5, .int v15), (0, .ref t), (1, .ref p1), (2, .int p2), (3, .int v11), (4, .int v12)]) (fun _ => rfl) rfl (fun v15 => ?_)
          refine r_goto (tgt := 8) hx (hd 50) (by decide) ?_
          refine r_sub [1, 2, 3, 4, 5, 0] rfl ?_
          exact ih5 v11 v12 v15
        refine r_if_le (tgt := 64) (pc' := 51) hx (hd 27) (by decide) (fun _ => ?_) rfl (fun _ => ?_)
        · skip
          refine r_iload_n (pc' := 65) hx (hd 34) rfl 4 rfl rfl ?_
          refine r_iconst (pc' := 66) (v := 3) hx (hd 35) (by decide) rfl ?_
          refine r_icmp_lt (tgt := 80) (pc' := 69) hx (hd 36) (by decide) (fun _ => ?_) rfl (fun _ => ?_)
          · skip
            refine r_iconst (pc' := 81) (v := 0) hx (hd 45) (by decide) rfl ?_
            refine r_istore_n (pc' := 82) (L' := [(3, .int 0), (6, .int v8), (0, .ref t), (1, .ref p1), (2, .int p2), (4, .int v2), (5, .int v3)]) hx (hd 46) rfl (by decide) rfl rfl ?_
            refine r_iconst (pc' := 83) (v := 1) hx (hd 47) (by decide) rfl ?_
            refine r_istore (pc' := 85) (L' := [(4, .int 1), (3, .int 0), (6, .int v8), (0, .ref t), (1, .ref p1), (2, .int p2), (5, .int v3)]) hx (hd 48) (by decide) rfl rfl ?_
            refine r_sub [3, 4, 5, 1, 0, 6] rfl ?_
            exact hj14 0 1
          · skip
            refine r_iload (pc' := 71) hx (hd 37) 5 rfl rfl ?_
            refine r_aload_n (pc' := 72) hx (hd 38) rfl 1 rfl rfl ?_
            refine r_iconst (pc' := 73) (v := 3) hx (hd 39) (by decide) rfl ?_
            refine r_iload_n (pc' := 74) hx (hd 40) rfl 3 rfl rfl ?_
            refine r_iload_n (pc' := 75) hx (hd 41) rfl 4 rfl rfl ?_
            refine r_callV (pc' := 78) (As := [.int 3, .int p2, .int v1]) (rest := [.int v2]) hx (hd 42) md_X10_countOf mi_X10_countOf ms_X10_countOf ml_10_129 (cX10_countOf (xl x) w hL t ht 3 p2 v1 M) ht rfl (by decide) ⟨Nat.le_of_ble_eq_true rfl, Nat.le_of_ble_eq_true rfl⟩ rfl rfl (Nat.le_of_ble_eq_true rfl) (fun r16 => .int r16 :: [.int v2]) (fun _ => M) (fun _ => ⟨rfl, rfl⟩) rfl (fun r16 _ => ?_)
            refine r_imul (pc' := 79) hx (hd 43) rfl ?_
            exact r_iret hx (hd 44) rfl rfl hz
        · skip
          refine r_iinc (pc' := 54) (v := 1) hx (hd 28) 4 rfl (by decide) (by decide) (fun v17 => [(3, .int v17), (6, .int v8), (0, .ref t), (1, .ref p1), (2, .int p2), (4, .int v2), (5, .int v3)]) (fun _ => rfl) rfl (fun v17 => ?_)
          refine r_iload (pc' := 56) hx (hd 29) 5 rfl rfl ?_
          refine r_iload (pc' := 58) hx (hd 30) 1 rfl rfl ?_
          refine r_imul (pc' := 59) hx (hd 31) rfl ?_
          refine r_nmI (fun v18 => ?_)
          refine r_istore (pc' := 61) (L' := [(4, .int v18), (3, .int v17), (6, .int v8), (0, .ref t), (1, .ref p1), (2, .int p2), (5, .int v3)]) hx (hd 32) (by decide) rfl rfl ?_
          refine r_goto (tgt := 85) hx (hd 33) (by decide) ?_
          refine r_sub [3, 4, 5, 1, 0, 6] rfl ?_
          exact hj14 v17 v18
      refine r_jn0 43 ([(0, .ref t), (1, .ref p1), (2, .int p2), (3, .int v1), (4, .int v2), (5, .int v3)]) ([]) (M) (?_) (fun j19 hj20 => ?_)
      · skip
        refine r_iconst (pc' := 44) (v := 0) hx (hd 24) (by decide) rfl ?_
        exact hj10 0
      refine r_icmp_ge (tgt := 43) (pc' := 29) hx (hd 15) (by decide) (fun _ => ?_) rfl (fun _ => ?_)
      · skip
        exact hj20
      · skip
        refine r_iload (pc' := 31) hx (hd 16) 5 rfl rfl ?_
        refine r_aload_n (pc' := 32) hx (hd 17) rfl 1 rfl rfl ?_
        refine r_alen (pc' := 33) (v := (Int32.ofNat n1)) hx (hd 18) hp1 rfl rfl ?_
        refine r_icmp_ge (tgt := 43) (pc' := 36) hx (hd 19) (by decide) (fun _ => ?_) rfl (fun _ => ?_)
        · skip
          exact hj20
        · skip
          refine r_aload_n (pc' := 37) hx (hd 20) rfl 1 rfl rfl ?_
          refine r_iload (pc' := 39) hx (hd 21) 5 rfl rfl ?_
          refine r_gd (fun h21 => ?_)
          refine r_iald (pc' := 40) (k := ix v3) hx (hd 22) hp1 h21 rfl rfl ?_
          refine r_goto (tgt := 44) hx (hd 23) (by decide) ?_
          exact hj10 (mI M p1 (ix v3))
abbrev yX2_takeRanks : MethodName := ({ cls := "CribbageRoom$Four", name := "takeRanks", desc := "()V" } : Jvm.MethodName)
def tbX2_takeRanks : List (Nat × Instr × Nat) := [(0, .aload_n 0, 1), (1, .getfield 15, 3), (4, .iconst 0, 1), (5, .invokestatic 65, 3), (8, .iconst 0, 1), (9, .istore_n 1, 1), (10, .iload_n 1, 1), (11, .iconst 4, 1), (12, .if_icmp .ge 26, 3), (15, .aload_n 0, 1), (16, .getfield 15, 3), (19, .aload_n 0, 1), (20, .getfield 9, 3), (23, .iload_n 1, 1), (24, .iaload, 1), (25, .iconst 4, 1), (26, .idiv, 1), (27, .dup2, 1), (28, .iaload, 1), (29, .iconst 1, 1), (30, .iadd, 1), (31, .iastore, 1), (32, .iinc 1 1, 3), (35, .goto (-25), 3), (38, .iconst 0, 1), (39, .istore_n 1, 1), (40, .iconst 0, 1), (41, .istore_n 2, 1), (42, .iload_n 2, 1), (43, .bipush 13, 2), (45, .if_icmp .ge 43, 3), (48, .iload_n 1, 1), (49, .aload_n 0, 1), (50, .getfield 15, 3), (53, .iload_n 2, 1), (54, .iaload, 1), (55, .aload_n 0, 1), (56, .getfield 15, 3), (59, .iload_n 2, 1), (60, .iaload, 1), (61, .iconst 1, 1), (62, .isub, 1), (63, .imul, 1), (64, .iconst 2, 1), (65, .idiv, 1), (66, .aload_n 0, 1), (67, .getfield 27, 3), (70, .iconst 2, 1), (71, .aload_n 0, 1), (72, .getfield 31, 3), (75, .iload_n 2, 1), (76, .invokevirtual 85, 3), (79, .imul, 1), (80, .iadd, 1), (81, .istore_n 1, 1), (82, .iinc 2 1, 3), (85, .goto (-43), 3), (88, .iconst 0, 1), (89, .istore_n 2, 1), (90, .iload_n 2, 1), (91, .bipush 13, 2), (93, .if_icmp .ge 78, 3), (96, .aload_n 0, 1), (97, .getfield 18, 3), (100, .iload_n 2, 1), (101, .iload_n 1, 1), (102, .aload_n 0, 1), (103, .getfield 15, 3), (106, .iload_n 2, 1), (107, .iaload, 1), (108, .aload_n 0, 1), (109, .getfield 27, 3), (112, .iconst 2, 1), (113, .aload_n 0, 1), (114, .getfield 31, 3), (117, .iload_n 2, 1), (118, .invokevirtual 85, 3), (121, .imul, 1), (122, .iadd, 1), (123, .iastore, 1), (124, .aload_n 0, 1), (125, .getfield 15, 3), (128, .iload_n 2, 1), (129, .dup2, 1), (130, .iaload, 1), (131, .iconst 1, 1), (132, .iadd, 1), (133, .iastore, 1), (134, .aload_n 0, 1), (135, .getfield 21, 3), (138, .iload_n 2, 1), (139, .aload_n 0, 1), (140, .getfield 27, 3), (143, .aload_n 0, 1), (144, .getfield 15, 3), (147, .aload_n 0, 1), (148, .getfield 31, 3), (151, .invokevirtual 89, 3), (154, .iastore, 1), (155, .aload_n 0, 1), (156, .getfield 15, 3), (159, .iload_n 2, 1), (160, .dup2, 1), (161, .iaload, 1), (162, .iconst 1, 1), (163, .isub, 1), (164, .iastore, 1), (165, .iinc 2 1, 3), (168, .goto (-78), 3), (171, .return_, 1)]
theorem dX2_takeRanks : ∀ q ∈ tbX2_takeRanks, decode prog_4_method_4_code q.1 = .ok q.2 := by decide +kernel
set_option maxRecDepth 20000 in
theorem cX2_takeRanks (l : Launch) (w : WX) (hL : Lay w) (t : Nat) (ht : Wat w t 2 0) (M : Mem) : Ct l w yX2_takeRanks prog_4_method_4_code 3 (Option.none : Option FieldType) 2 49 evU emU [.ref t] M (FX2_takeRanks t M) := by
  refine ct_of (by decide) (Nat.le_of_ble_eq_true rfl) (fun x hl hx hb hz => ?_)
  subst hl
  have hd : ∀ i, DAt (xc x).code (tbX2_takeRanks[i]?) := fun i => by rw [hb]; exact dat_of dX2_takeRanks i
  show C x w (Qn x w evU emU) 3 0 [(0, .ref t)] [] M (FX2_takeRanks t M)
  unfold FX2_takeRanks
  refine r_aload_n (pc' := 1) hx (hd 0) rfl 0 rfl rfl ?_
  refine r_get (pc' := 4) (v := .ref (t + 2)) hx (hd 1) fl_2_15 ht rfl (by decide) rfl ?_
  have h1 := hL.1 _ _ _ ht 1 2 20 13 rfl
  refine r_iconst (pc' := 5) (v := 0) hx (hd 2) (by decide) rfl ?_
  refine r_callSU (pc' := 8) (As := [.ref (t + 2), .int 0]) (rest := []) hx (hd 3) md_J_Arrays_fill_0 mst_J_Arrays_fill_0 ml_2_65 (cJ_Arrays_fill_0 (xl x) w hL (t + 2) 13 h1 0 M) ⟨Nat.le_of_ble_eq_true rfl, Nat.le_of_ble_eq_true rfl⟩ rfl rfl (Nat.le_of_ble_eq_true rfl) rfl (fun M2 => ?_)
  refine r_iconst (pc' := 9) (v := 0) hx (hd 4) (by decide) rfl ?_
  refine r_istore_n (pc' := 10) (L' := [(1, .int 0), (0, .ref t)]) hx (hd 5) rfl (by decide) rfl rfl ?_
  refine r_sub [1, 0] rfl ?_
  refine r_wl2 (fun v3 M4 => [(0, .ref t), (1, .int v3)]) (fun v3 M4 => []) (fun v3 M4 => M4) (fun v3 M4 rec5 ih6 => ?_) fuel 0 M2
  refine r_iload_n (pc' := 11) hx (hd 6) rfl 1 rfl rfl ?_
  refine r_iconst (pc' := 12) (v := 4) hx (hd 7) (by decide) rfl ?_
  refine r_icmp_ge (tgt := 38) (pc' := 15) hx (hd 8) (by decide) (fun _ => ?_) rfl (fun _ => ?_)
  · skip
    refine r_iconst (pc' := 39) (v := 0) hx (hd 24) (by decide) rfl ?_
    refine r_istore_n (pc' := 40) (L' := [(1, .int 0), (0, .ref t)]) hx (hd 25) rfl (by decide) rfl rfl ?_
    refine r_iconst (pc' := 41) (v := 0) hx (hd 26) (by decide) rfl ?_
    refine r_istore_n (pc' := 42) (L' := [(2, .int 0), (1, .int 0), (0, .ref t)]) hx (hd 27) rfl (by decide) rfl rfl ?_
    refine r_sub [2, 1, 0] rfl ?_
    refine r_wl2 (fun v7 v8 => [(0, .ref t), (1, .int v7), (2, .int v8)]) (fun v7 v8 => []) (fun v7 v8 => M4) (fun v7 v8 rec9 ih10 => ?_) fuel 0 0
    refine r_iload_n (pc' := 43) hx (hd 28) rfl 2 rfl rfl ?_
    refine r_bipush (pc' := 45) (v := 13) hx (hd 29) (by decide) rfl ?_
    refine r_icmp_ge (tgt := 88) (pc' := 48) hx (hd 30) (by decide) (fun _ => ?_) rfl (fun _ => ?_)
    · skip
      refine r_iconst (pc' := 89) (v := 0) hx (hd 57) (by decide) rfl ?_
      refine r_istore_n (pc' := 90) (L' := [(2, .int 0), (0, .ref t), (1, .int v7)]) hx (hd 58) rfl (by decide) rfl rfl ?_
      refine r_sub [1, 2, 0] rfl ?_
      refine r_wl2 (fun v11 M12 => [(0, .ref t), (1, .int v7), (2, .int v11)]) (fun v11 M12 => []) (fun v11 M12 => M12) (fun v11 M12 rec13 ih14 => ?_) fuel 0 M4
      refine r_iload_n (pc' := 91) hx (hd 59) rfl 2 rfl rfl ?_
      refine r_bipush (pc' := 93) (v := 13) hx (hd 60) (by decide) rfl ?_
      refine r_icmp_ge (tgt := 171) (pc' := 96) hx (hd 61) (by decide) (fun _ => ?_) rfl (fun _ => ?_)
      · skip
        exact r_vret hx (hd 109) rfl rfl hz
      · skip
        refine r_aload_n (pc' := 97) hx (hd 62) rfl 0 rfl rfl ?_
        refine r_get (pc' := 100) (v := .ref (t + 3)) hx (hd 63) fl_2_18 ht rfl (by decide) rfl ?_
        have h15 := hL.1 _ _ _ ht 2 3 20 13 rfl
        refine r_iload_n (pc' := 101) hx (hd 64) rfl 2 rfl rfl ?_
        refine r_iload_n (pc' := 102) hx (hd 65) rfl 1 rfl rfl ?_
        refine r_aload_n (pc' := 103) hx (hd 66) rfl 0 rfl rfl ?_
        refine r_get (pc' := 106) (v := .ref (t + 2)) hx (hd 67) fl_2_15 ht rfl (by decide) rfl ?_
        have h16 := hL.1 _ _ _ ht 1 2 20 13 rfl
        refine r_iload_n (pc' := 107) hx (hd 68) rfl 2 rfl rfl ?_
        refine r_gd (fun h17 => ?_)
        refine r_iald (pc' := 108) (k := ix v11) hx (hd 69) h16 h17 rfl rfl ?_
        refine r_aload_n (pc' := 109) hx (hd 70) rfl 0 rfl rfl ?_
        refine r_get (pc' := 112) (v := va_rf (mR M12 t 5)) hx (hd 71) fl_2_27 ht rfl (by decide) rfl ?_
        refine r_wt (fun wt20 => ?_)
        refine r_nmR (fun v18 hn19 => ?_)
        refine r_iconst (pc' := 113) (v := 2) hx (hd 72) (by decide) rfl ?_
        refine r_aload_n (pc' := 114) hx (hd 73) rfl 0 rfl rfl ?_
        refine r_get (pc' := 117) (v := .int (mI M12 t 6)) hx (hd 74) fl_2_31 ht rfl (by decide) rfl ?_
        refine r_iload_n (pc' := 118) hx (hd 75) rfl 2 rfl rfl ?_
        refine r_bd (fun b21 e22 => ?_)
        have h23 := (fun b hb => wt20 _ _ _ ht 5 10 b rfl (hn19 ▸ hb)) b21 e22
        subst e22
        refine r_callV (pc' := 121) (As := [.int 2, .int (mI M12 t 6), .int v11]) (rest := [.int (mI M12 (t + 2) (ix v11)), .int v7, .int v11, .ref (t + 3)]) hx (hd 76) md_X10_countOf mi_X10_countOf ms_X10_countOf ml_2_85 (cX10_countOf (xl x) w hL b21 h23 2 (mI M12 t 6) v11 M12) h23 rfl (by decide) ⟨Nat.le_of_ble_eq_true rfl, Nat.le_of_ble_eq_true rfl⟩ rfl rfl (Nat.le_of_ble_eq_true rfl) (fun r24 => .int r24 :: [.int (mI M12 (t + 2) (ix v11)), .int v7, .int v11, .ref (t + 3)]) (fun _ => M12) (fun _ => ⟨rfl, rfl⟩) rfl (fun r24 _ => ?_)
        refine r_imul (pc' := 122) hx (hd 77) rfl ?_
        refine r_iadd (pc' := 123) hx (hd 78) rfl ?_
        refine r_gd (fun h26 => ?_)
        refine r_iast (pc' := 124) (k := ix v11) hx (hd 79) h15 h26 rfl rfl (fun M25 => ?_)
        refine r_aload_n (pc' := 125) hx (hd 80) rfl 0 rfl rfl ?_
        refine r_get (pc' := 128) (v := .ref (t + 2)) hx (hd 81) fl_2_15 ht rfl (by decide) rfl ?_
        have h27 := hL.1 _ _ _ ht 1 2 20 13 rfl
        refine r_iload_n (pc' := 129) hx (hd 82) rfl 2 rfl rfl ?_
        refine r_dup2 (pc' := 130) hx (hd 83) rfl rfl rfl ?_
        refine r_gd (fun h28 => ?_)
        refine r_iald (pc' := 131) (k := ix v11) hx (hd 84) h27 h28 rfl rfl ?_
        refine r_iconst (pc' := 132) (v := 1) hx (hd 85) (by decide) rfl ?_
        refine r_iadd (pc' := 133) hx (hd 86) rfl ?_
        refine r_gd (fun h30 => ?_)
        refine r_iast (pc' := 134) (k := ix v11) hx (hd 87) h27 h30 rfl rfl (fun M29 => ?_)
        refine r_aload_n (pc' := 135) hx (hd 88) rfl 0 rfl rfl ?_
        refine r_get (pc' := 138) (v := .ref (t + 4)) hx (hd 89) fl_2_21 ht rfl (by decide) rfl ?_
        have h31 := hL.1 _ _ _ ht 3 4 20 13 rfl
        refine r_iload_n (pc' := 139) hx (hd 90) rfl 2 rfl rfl ?_
        refine r_aload_n (pc' := 140) hx (hd 91) rfl 0 rfl rfl ?_
        refine r_get (pc' := 143) (v := va_rf (mR M29 t 5)) hx (hd 92) fl_2_27 ht rfl (by decide) rfl ?_
        refine r_wt (fun wt34 => ?_)
        refine r_nmR (fun v32 hn33 => ?_)
        refine r_aload_n (pc' := 144) hx (hd 93) rfl 0 rfl rfl ?_
        refine r_get (pc' := 147) (v := .ref (t + 2)) hx (hd 94) fl_2_15 ht rfl (by decide) rfl ?_
        have h35 := hL.1 _ _ _ ht 1 2 20 13 rfl
        refine r_aload_n (pc' := 148) hx (hd 95) rfl 0 rfl rfl ?_
        refine r_get (pc' := 151) (v := .int (mI M29 t 6)) hx (hd 96) fl_2_31 ht rfl (by decide) rfl ?_
        refine r_bd (fun b36 e37 => ?_)
        have h38 := (fun b hb => wt34 _ _ _ ht 5 10 b rfl (hn33 ▸ hb)) b36 e37
        subst e37
        refine r_callV (pc' := 154) (As := [.ref (t + 2), .int (mI M29 t 6)]) (rest := [.int v11, .ref (t + 4)]) hx (hd 97) md_X10_runsOf mi_X10_runsOf ms_X10_runsOf ml_2_89 (cX10_runsOf (xl x) w hL b36 h38 (t + 2) 13 h35 (mI M29 t 6) M29) h38 rfl (by decide) ⟨Nat.le_of_ble_eq_true rfl, Nat.le_of_ble_eq_true rfl⟩ rfl rfl (Nat.le_of_ble_eq_true rfl) (fun r39 => .int r39 :: [.int v11, .ref (t + 4)]) (fun _ => M29) (fun _ => ⟨rfl, rfl⟩) rfl (fun r39 _ => ?_)
        refine r_gd (fun h41 => ?_)
        refine r_iast (pc' := 155) (k := ix v11) hx (hd 98) h31 h41 rfl rfl (fun M40 => ?_)
        refine r_aload_n (pc' := 156) hx (hd 99) rfl 0 rfl rfl ?_
        refine r_get (pc' := 159) (v := .ref (t + 2)) hx (hd 100) fl_2_15 ht rfl (by decide) rfl ?_
        have h42 := hL.1 _ _ _ ht 1 2 20 13 rfl
        refine r_iload_n (pc' := 160) hx (hd 101) rfl 2 rfl rfl ?_
        refine r_dup2 (pc' := 161) hx (hd 102) rfl rfl rfl ?_
        refine r_gd (fun h43 => ?_)
        refine r_iald (pc' := 162) (k := ix v11) hx (hd 103) h42 h43 rfl rfl ?_
        refine r_iconst (pc' := 163) (v := 1) hx (hd 104) (by decide) rfl ?_
        refine r_isub (pc' := 164) hx (hd 105) rfl ?_
        refine r_gd (fun h45 => ?_)
        refine r_iast (pc' := 165) (k := ix v11) hx (hd 106) h42 h45 rfl rfl (fun M44 => ?_)
        refine r_iinc (pc' := 168) (v := 1) hx (hd 107) 2 rfl (by decide) (by decide) (fun v46 => [(2, .int v46), (0, .ref t), (1, .int v7)]) (fun _ => rfl) rfl (fun v46 => ?_)
        refine r_goto (tgt := 90) hx (hd 108) (by decide) ?_
        refine r_sub [1, 2, 0] rfl ?_
        exact ih14 v46 M44
    · skip
      refine r_iload_n (pc' := 49) hx (hd 31) rfl 1 rfl rfl ?_
      refine r_aload_n (pc' := 50) hx (hd 32) rfl 0 rfl rfl ?_
      refine r_get (pc' := 53) (v := .ref (t + 2)) hx (hd 33) fl_2_15 ht rfl (by decide) rfl ?_
      have h47 := hL.1 _ _ _ ht 1 2 20 13 rfl
      refine r_iload_n (pc' := 54) hx (hd 34) rfl 2 rfl rfl ?_
      refine r_gd (fun h48 => ?_)
      refine r_iald (pc' := 55) (k := ix v8) hx (hd 35) h47 h48 rfl rfl ?_
      refine r_aload_n (pc' := 56) hx (hd 36) rfl 0 rfl rfl ?_
      refine r_get (pc' := 59) (v := .ref (t + 2)) hx (hd 37) fl_2_15 ht rfl (by decide) rfl ?_
      have h49 := hL.1 _ _ _ ht 1 2 20 13 rfl
      refine r_iload_n (pc' := 60) hx (hd 38) rfl 2 rfl rfl ?_
      refine r_gd (fun h50 => ?_)
      refine r_iald (pc' := 61) (k := ix v8) hx (hd 39) h49 h50 rfl rfl ?_
      refine r_iconst (pc' := 62) (v := 1) hx (hd 40) (by decide) rfl ?_
      refine r_isub (pc' := 63) hx (hd 41) rfl ?_
      refine r_imul (pc' := 64) hx (hd 42) rfl ?_
      refine r_iconst (pc' := 65) (v := 2) hx (hd 43) (by decide) rfl ?_
      refine r_idiv (pc' := 66) hx (hd 44) (by decide) rfl ?_
      refine r_aload_n (pc' := 67) hx (hd 45) rfl 0 rfl rfl ?_
      refine r_get (pc' := 70) (v := va_rf (mR M4 t 5)) hx (hd 46) fl_2_27 ht rfl (by decide) rfl ?_
      refine r_wt (fun wt53 => ?_)
      refine r_nmR (fun v51 hn52 => ?_)
      refine r_iconst (pc' := 71) (v := 2) hx (hd 47) (by decide) rfl ?_
      refine r_aload_n (pc' := 72) hx (hd 48) rfl 0 rfl rfl ?_
      refine r_get (pc' := 75) (v := .int (mI M4 t 6)) hx (hd 49) fl_2_31 ht rfl (by decide) rfl ?_
      refine r_iload_n (pc' := 76) hx (hd 50) rfl 2 rfl rfl ?_
      refine r_bd (fun b54 e55 => ?_)
      have h56 := (fun b hb => wt53 _ _ _ ht 5 10 b rfl (hn52 ▸ hb)) b54 e55
      subst e55
      refine r_callV (pc' := 79) (As := [.int 2, .int (mI M4 t 6), .int v8]) (rest := [.int (((mI M4 (t + 2) (ix v8)) * ((mI M4 (t + 2) (ix v8)) - 1)) / 2), .int v7]) hx (hd 51) md_X10_countOf mi_X10_countOf ms_X10_countOf ml_2_85 (cX10_countOf (xl x) w hL b54 h56 2 (mI M4 t 6) v8 M4) h56 rfl (by decide) ⟨Nat.le_of_ble_eq_true rfl, Nat.le_of_ble_eq_true rfl⟩ rfl rfl (Nat.le_of_ble_eq_true rfl) (fun r57 => .int r57 :: [.int (((mI M4 (t + 2) (ix v8)) * ((mI M4 (t + 2) (ix v8)) - 1)) / 2), .int v7]) (fun _ => M4) (fun _ => ⟨rfl, rfl⟩) rfl (fun r57 _ => ?_)
      refine r_imul (pc' := 80) hx (hd 52) rfl ?_
      refine r_iadd (pc' := 81) hx (hd 53) rfl ?_
      refine r_nmI (fun v58 => ?_)
      refine r_istore_n (pc' := 82) (L' := [(1, .int v58), (0, .ref t), (2, .int v8)]) hx (hd 54) rfl (by decide) rfl rfl ?_
      refine r_iinc (pc' := 85) (v := 1) hx (hd 55) 2 rfl (by decide) (by decide) (fun v59 => [(2, .int v59), (1, .int v58), (0, .ref t)]) (fun _ => rfl) rfl (fun v59 => ?_)
      refine r_goto (tgt := 42) hx (hd 56) (by decide) ?_
      refine r_sub [2, 1, 0] rfl ?_
      exact ih10 v58 v59
  · skip
    refine r_aload_n (pc' := 16) hx (hd 9) rfl 0 rfl rfl ?_
    refine r_get (pc' := 19) (v := .ref (t + 2)) hx (hd 10) fl_2_15 ht rfl (by decide) rfl ?_
    have h60 := hL.1 _ _ _ ht 1 2 20 13 rfl
    refine r_aload_n (pc' := 20) hx (hd 11) rfl 0 rfl rfl ?_
    refine r_get (pc' := 23) (v := .ref (t + 1)) hx (hd 12) fl_2_9 ht rfl (by decide) rfl ?_
    have h61 := hL.1 _ _ _ ht 0 1 20 4 rfl
    refine r_iload_n (pc' := 24) hx (hd 13) rfl 1 rfl rfl ?_
    refine r_gd (fun h62 => ?_)
    refine r_iald (pc' := 25) (k := ix v3) hx (hd 14) h61 h62 rfl rfl ?_
    refine r_iconst (pc' := 26) (v := 4) hx (hd 15) (by decide) rfl ?_
    refine r_idiv (pc' := 27) hx (hd 16) (by decide) rfl ?_
    refine r_dup2 (pc' := 28) hx (hd 17) rfl rfl rfl ?_
    refine r_gd (fun h63 => ?_)
    refine r_iald (pc' := 29) (k := ix ((mI M4 (t + 1) (ix v3)) / 4)) hx (hd 18) h60 h63 rfl rfl ?_
    refine r_iconst (pc' := 30) (v := 1) hx (hd 19) (by decide) rfl ?_
    refine r_iadd (pc' := 31) hx (hd 20) rfl ?_
    refine r_gd (fun h65 => ?_)
    refine r_iast (pc' := 32) (k := ix ((mI M4 (t + 1) (ix v3)) / 4)) hx (hd 21) h60 h65 rfl rfl (fun M64 => ?_)
    refine r_iinc (pc' := 35) (v := 1) hx (hd 22) 1 rfl (by decide) (by decide) (fun v66 => [(1, .int v66), (0, .ref t)]) (fun _ => rfl) rfl (fun v66 => ?_)
    refine r_goto (tgt := 10) hx (hd 23) (by decide) ?_
    refine r_sub [1, 0] rfl ?_
    exact ih6 v66 M64
abbrev yX2_take : MethodName := ({ cls := "CribbageRoom$Four", name := "take", desc := "(JILCribbageRoom$Worth;)V" } : Jvm.MethodName)
def tbX2_take : List (Nat × Instr × Nat) := [(0, .aload_n 0, 1), (1, .aload 4, 2), (3, .putfield 27, 3), (6, .aload_n 0, 1), (7, .iload_n 3, 1), (8, .putfield 31, 3), (11, .aload_n 0, 1), (12, .lconst 0, 1), (13, .putfield 35, 3), (16, .iconst 0, 1), (17, .istore 5, 2), (19, .iload 5, 2), (21, .iconst 4, 1), (22, .if_icmp .ge 26, 3), (25, .aload_n 0, 1), (26, .getfield 9, 3), (29, .iload 5, 2), (31, .iconst 0, 1), (32, .lload_n 1, 1), (33, .iload 5, 2), (35, .invokestatic 39, 3), (38, .invokestatic 43, 3), (41, .iastore, 1), (42, .iinc 5 1, 3), (45, .goto (-26), 3), (48, .aload_n 0, 1), (49, .aload_n 0, 1), (50, .getfield 9, 3), (53, .iconst 0, 1), (54, .iaload, 1), (55, .iconst 4, 1), (56, .irem, 1), (57, .putfield 49, 3), (60, .iconst 0, 1), (61, .istore 5, 2), (63, .iload 5, 2), (65, .iconst 4, 1), (66, .if_icmp .ge 30, 3), (69, .aload_n 0, 1), (70, .getfield 9, 3), (73, .iload 5, 2), (75, .iaload, 1), (76, .iconst 4, 1), (77, .irem, 1), (78, .aload_n 0, 1), (79, .getfield 49, 3), (82, .if_icmp .eq 8, 3), (85, .aload_n 0, 1), (86, .iconst (-1), 1), (87, .putfield 49, 3), (90, .iinc 5 1, 3), (93, .goto (-30), 3), (96, .iconst 0, 1), (97, .istore 5, 2), (99, .iload 5, 2), (101, .iconst 4, 1), (102, .if_icmp .ge 42, 3), (105, .aload_n 0, 1), (106, .getfield 9, 3), (109, .iload 5, 2), (111, .iaload, 1), (112, .iconst 4, 1), (113, .idiv, 1), (114, .bipush 10, 2), (116, .if_icmp .ne 22, 3), (119, .aload_n 0, 1), (120, .dup, 1), (121, .getfield 35, 3), (124, .aload_n 0, 1), (125, .getfield 9, 3), (128, .iload 5, 2), (130, .iaload, 1), (131, .invokestatic 52, 3), (134, .lor, 1), (135, .putfield 35, 3), (138, .iinc 5 1, 3), (141, .goto (-42), 3), (144, .aload_n 0, 1), (145, .invokevirtual 56, 3), (148, .aload_n 0, 1), (149, .invokevirtual 59, 3), (152, .return_, 1)]
theorem dX2_take : ∀ q ∈ tbX2_take, decode prog_4_method_2_code q.1 = .ok q.2 := by decide +kernel
set_option maxRecDepth 20000 in
theorem cX2_take (l : Launch) (w : WX) (hL : Lay w) (t : Nat) (ht : Wat w t 2 0) (p1 : Int64) (p3 : Int32) (p4 : Nat) (hp4 : Wat w p4 10 0) (M : Mem) : Ct l w yX2_take prog_4_method_2_code 6 (Option.none : Option FieldType) 3 71 evU emU [.ref t, .long p1, .int p3, .ref p4] M (FX2_take t p1 p3 p4 M) := by
  refine ct_of (by decide) (Nat.le_of_ble_eq_true rfl) (fun x hl hx hb hz => ?_)
  subst hl
  have hd : ∀ i, DAt (xc x).code (tbX2_take[i]?) := fun i => by rw [hb]; exact dat_of dX2_take i
  show C x w (Qn x w evU emU) 6 0 [(0, .ref t), (1, .long p1), (3, .int p3), (4, .ref p4)] [] M (FX2_take t p1 p3 p4 M)
  unfold FX2_take
  refine r_aload_n (pc' := 1) hx (hd 0) rfl 0 rfl rfl ?_
  refine r_aload (pc' := 3) hx (hd 1) 3 rfl rfl ?_
  refine r_putR (pc' := 6) (v := (some p4)) hx (hd 2) fp_2_27 ht rfl (by decide) (fun kd b hm hb => by cases hm; cases hb; exact hp4) rfl (fun M1 => ?_)
  refine r_aload_n (pc' := 7) hx (hd 3) rfl 0 rfl rfl ?_
  refine r_iload_n (pc' := 8) hx (hd 4) rfl 2 rfl rfl ?_
  refine r_putI (pc' := 11) hx (hd 5) fp_2_31 ht rfl (by decide) rfl (fun M2 => ?_)
  refine r_aload_n (pc' := 12) hx (hd 6) rfl 0 rfl rfl ?_
  refine r_lconst (pc' := 13) (v := 0) hx (hd 7) (by decide) rfl ?_
  refine r_putJ (pc' := 16) hx (hd 8) fp_2_35 ht rfl (by decide) rfl (fun M3 => ?_)
  refine r_iconst (pc' := 17) (v := 0) hx (hd 9) (by decide) rfl ?_
  refine r_istore (pc' := 19) (L' := [(5, .int 0), (0, .ref t), (1, .long p1), (3, .int p3), (4, .ref p4)]) hx (hd 10) (by decide) rfl rfl ?_
  refine r_sub [1, 2, 0] rfl ?_
  refine r_wl2 (fun v4 M5 => [(0, .ref t), (1, .long p1), (5, .int v4)]) (fun v4 M5 => []) (fun v4 M5 => M5) (fun v4 M5 rec6 ih7 => ?_) fuel 0 M3
  refine r_iload (pc' := 21) hx (hd 11) 2 rfl rfl ?_
  refine r_iconst (pc' := 22) (v := 4) hx (hd 12) (by decide) rfl ?_
  refine r_icmp_ge (tgt := 48) (pc' := 25) hx (hd 13) (by decide) (fun _ => ?_) rfl (fun _ => ?_)
  · skip
    refine r_aload_n (pc' := 49) hx (hd 25) rfl 0 rfl rfl ?_
    refine r_aload_n (pc' := 50) hx (hd 26) rfl 0 rfl rfl ?_
    refine r_get (pc' := 53) (v := .ref (t + 1)) hx (hd 27) fl_2_9 ht rfl (by decide) rfl ?_
    have h8 := hL.1 _ _ _ ht 0 1 20 4 rfl
    refine r_iconst (pc' := 54) (v := 0) hx (hd 28) (by decide) rfl ?_
    refine r_iald (pc' := 55) (k := 0) hx (hd 29) h8 (by decide) (by decide) rfl ?_
    refine r_iconst (pc' := 56) (v := 4) hx (hd 30) (by decide) rfl ?_
    refine r_irem (pc' := 57) hx (hd 31) (by decide) rfl ?_
    refine r_putI (pc' := 60) hx (hd 32) fp_2_49 ht rfl (by decide) rfl (fun M9 => ?_)
    refine r_iconst (pc' := 61) (v := 0) hx (hd 33) (by decide) rfl ?_
    refine r_istore (pc' := 63) (L' := [(5, .int 0), (0, .ref t), (1, .long p1)]) hx (hd 34) (by decide) rfl rfl ?_
    refine r_sub [1, 0] rfl ?_
    refine r_wl2 (fun v10 M11 => [(0, .ref t), (5, .int v10)]) (fun v10 M11 => []) (fun v10 M11 => M11) (fun v10 M11 rec12 ih13 => ?_) fuel 0 M9
    refine r_iload (pc' := 65) hx (hd 35) 1 rfl rfl ?_
    refine r_iconst (pc' := 66) (v := 4) hx (hd 36) (by decide) rfl ?_
    refine r_icmp_ge (tgt := 96) (pc' := 69) hx (hd 37) (by decide) (fun _ => ?_) rfl (fun _ => ?_)
    · skip
      refine r_iconst (pc' := 97) (v := 0) hx (hd 52) (by decide) rfl ?_
      refine r_istore (pc' := 99) (L' := [(5, .int 0), (0, .ref t)]) hx (hd 53) (by decide) rfl rfl ?_
      refine r_sub [1, 0] rfl ?_
      refine r_wl2 (fun v14 M15 => [(0, .ref t), (5, .int v14)]) (fun v14 M15 => []) (fun v14 M15 => M15) (fun v14 M15 rec16 ih17 => ?_) fuel 0 M11
      refine r_iload (pc' := 101) hx (hd 54) 1 rfl rfl ?_
      refine r_iconst (pc' := 102) (v := 4) hx (hd 55) (by decide) rfl ?_
      refine r_icmp_ge (tgt := 144) (pc' := 105) hx (hd 56) (by decide) (fun _ => ?_) rfl (fun _ => ?_)
      · skip
        refine r_aload_n (pc' := 145) hx (hd 77) rfl 0 rfl rfl ?_
        refine r_callVU (pc' := 148) (As := []) (rest := []) hx (hd 78) md_X2_takeFifteens mi_X2_takeFifteens ms_X2_takeFifteens ml_2_56 (cX2_takeFifteens (xl x) w hL t ht M15) ht rfl (by decide) ⟨Nat.le_of_ble_eq_true rfl, Nat.le_of_ble_eq_true rfl⟩ rfl rfl (Nat.le_of_ble_eq_true rfl) rfl (fun M18 => ?_)
        refine r_aload_n (pc' := 149) hx (hd 79) rfl 0 rfl rfl ?_
        refine r_callVU (pc' := 152) (As := []) (rest := []) hx (hd 80) md_X2_takeRanks mi_X2_takeRanks ms_X2_takeRanks ml_2_59 (cX2_takeRanks (xl x) w hL t ht M18) ht rfl (by decide) ⟨Nat.le_of_ble_eq_true rfl, Nat.le_of_ble_eq_true rfl⟩ rfl rfl (Nat.le_of_ble_eq_true rfl) rfl (fun M19 => ?_)
        exact r_vret hx (hd 81) rfl rfl hz
      · skip
        refine r_aload_n (pc' := 106) hx (hd 57) rfl 0 rfl rfl ?_
        refine r_get (pc' := 109) (v := .ref (t + 1)) hx (hd 58) fl_2_9 ht rfl (by decide) rfl ?_
        have h20 := hL.1 _ _ _ ht 0 1 20 4 rfl
        refine r_iload (pc' := 111) hx (hd 59) 1 rfl rfl ?_
        refine r_gd (fun h21 => ?_)
        refine r_iald (pc' := 112) (k := ix v14) hx (hd 60) h20 h21 rfl rfl ?_
        refine r_iconst (pc' := 113) (v := 4) hx (hd 61) (by decide) rfl ?_
        refine r_idiv (pc' := 114) hx (hd 62) (by decide) rfl ?_
        refine r_bipush (pc' := 116) (v := 10) hx (hd 63) (by decide) rfl ?_
        refine r_jn1 138 (fun M22 => [(0, .ref t), (5, .int v14)]) (fun M22 => []) (fun M22 => M22) (fun M22 => ?_) (fun j23 hj24 => ?_)
        · skip
          refine r_iinc (pc' := 141) (v := 1) hx (hd 75) 1 rfl (by decide) (by decide) (fun v25 => [(5, .int v25), (0, .ref t)]) (fun _ => rfl) rfl (fun v25 => ?_)
          refine r_goto (tgt := 99) hx (hd 76) (by decide) ?_
          refine r_sub [1, 0] rfl ?_
          exact ih17 v25 M22
        refine r_icmp_ne (tgt := 138) (pc' := 119) hx (hd 64) (by decide) (fun _ => ?_) rfl (fun _ => ?_)
        · skip
          exact hj24 M15
        · skip
          refine r_aload_n (pc' := 120) hx (hd 65) rfl 0 rfl rfl ?_
          refine r_dup (pc' := 121) hx (hd 66) rfl rfl ?_
          refine r_get (pc' := 124) (v := .long (mJ M15 t 9)) hx (hd 67) fl_2_35 ht rfl (by decide) rfl ?_
          refine r_aload_n (pc' := 125) hx (hd 68) rfl 0 rfl rfl ?_
          refine r_get (pc' := 128) (v := .ref (t + 1)) hx (hd 69) fl_2_9 ht rfl (by decide) rfl ?_
          have h26 := hL.1 _ _ _ ht 0 1 20 4 rfl
          refine r_iload (pc' := 130) hx (hd 70) 1 rfl rfl ?_
          refine r_gd (fun h27 => ?_)
          refine r_iald (pc' := 131) (k := ix v14) hx (hd 71) h26 h27 rfl rfl ?_
          refine r_callSN (pc' := 134) (As := [.int (mI M15 (t + 1) (ix v14))]) (rest := [.long (mJ M15 t 9), .ref t]) hx (hd 72) md_X11_bit mst_X11_bit ml_2_52 (cX11_bit (xl x) w hL (mI M15 (t + 1) (ix v14)) M15) ⟨Nat.le_of_ble_eq_true rfl, Nat.le_of_ble_eq_true rfl⟩ rfl rfl (Nat.le_of_ble_eq_true rfl) (fun r28 => .long r28 :: [.long (mJ M15 t 9), .ref t]) (fun _ => M15) (fun _ => ⟨rfl, rfl⟩) rfl (fun r28 _ => ?_)
          refine r_lor (pc' := 135) hx (hd 73) rfl ?_
          refine r_putJ (pc' := 138) hx (hd 74) fp_2_35 ht rfl (by decide) rfl (fun M29 => ?_)
          exact hj24 M29
    · skip
      refine r_aload_n (pc' := 70) hx (hd 38) rfl 0 rfl rfl ?_
      refine r_get (pc' := 73) (v := .ref (t + 1)) hx (hd 39) fl_2_9 ht rfl (by decide) rfl ?_
      have h30 := hL.1 _ _ _ ht 0 1 20 4 rfl
      refine r_iload (pc' := 75) hx (hd 40) 1 rfl rfl ?_
      refine r_gd (fun h31 => ?_)
      refine r_iald (pc' := 76) (k := ix v10) hx (hd 41) h30 h31 rfl rfl ?_
      refine r_iconst (pc' := 77) (v := 4) hx (hd 42) (by decide) rfl ?_
      refine r_irem (pc' := 78) hx (hd 43) (by decide) rfl ?_
      refine r_aload_n (pc' := 79) hx (hd 44) rfl 0 rfl rfl ?_
      refine r_get (pc' := 82) (v := .int (mI M11 t 8)) hx (hd 45) fl_2_49 ht rfl (by decide) rfl ?_
      refine r_jn1 90 (fun M32 => [(0, .ref t), (5, .int v10)]) (fun M32 => []) (fun M32 => M32) (fun M32 => ?_) (fun j33 hj34 => ?_)
      · skip
        refine r_iinc (pc' := 93) (v := 1) hx (hd 50) 1 rfl (by decide) (by decide) (fun v35 => [(5, .int v35), (0, .ref t)]) (fun _ => rfl) rfl (fun v35 => ?_)
        refine r_goto (tgt := 63) hx (hd 51) (by decide) ?_
        refine r_sub [1, 0] rfl ?_
        exact ih13 v35 M32
      refine r_icmp_eq (tgt := 90) (pc' := 85) hx (hd 46) (by decide) (fun _ => ?_) rfl (fun _ => ?_)
      · skip
        exact hj34 M11
      · skip
        refine r_aload_n (pc' := 86) hx (hd 47) rfl 0 rfl rfl ?_
        refine r_iconst (pc' := 87) (v := (-1)) hx (hd 48) (by decide) rfl ?_
        refine r_putI (pc' := 90) hx (hd 49) fp_2_49 ht rfl (by decide) rfl (fun M36 => ?_)
        exact hj34 M36
  · skip
    refine r_aload_n (pc' := 26) hx (hd 14) rfl 0 rfl rfl ?_
    refine r_get (pc' := 29) (v := .ref (t + 1)) hx (hd 15) fl_2_9 ht rfl (by decide) rfl ?_
    have h37 := hL.1 _ _ _ ht 0 1 20 4 rfl
    refine r_iload (pc' := 31) hx (hd 16) 2 rfl rfl ?_
    refine r_iconst (pc' := 32) (v := 0) hx (hd 17) (by decide) rfl ?_
    refine r_lload_n (pc' := 33) hx (hd 18) rfl 1 rfl rfl ?_
    refine r_iload (pc' := 35) hx (hd 19) 2 rfl rfl ?_
    refine r_callSN (pc' := 38) (As := [.long p1, .int v4]) (rest := [.int 0, .int v4, .ref (t + 1)]) hx (hd 20) md_X11_cardAt mst_X11_cardAt ml_2_39 (cX11_cardAt (xl x) w hL p1 v4 M5) ⟨Nat.le_of_ble_eq_true rfl, Nat.le_of_ble_eq_true rfl⟩ rfl rfl (Nat.le_of_ble_eq_true rfl) (fun r38 => .int r38 :: [.int 0, .int v4, .ref (t + 1)]) (fun _ => M5) (fun _ => ⟨rfl, rfl⟩) rfl (fun r38 _ => ?_)
    refine r_mmax (pc' := 41) hx (hd 21) ml_2_43 ⟨Nat.le_of_ble_eq_true rfl, Nat.le_of_ble_eq_true rfl⟩ (Nat.le_of_ble_eq_true rfl) rfl ?_
    refine r_gd (fun h40 => ?_)
    refine r_iast (pc' := 42) (k := ix v4) hx (hd 22) h37 h40 rfl rfl (fun M39 => ?_)
    refine r_iinc (pc' := 45) (v := 1) hx (hd 23) 2 rfl (by decide) (by decide) (fun v41 => [(5, .int v41), (0, .ref t), (1, .long p1)]) (fun _ => rfl) rfl (fun v41 => ?_)
    refine r_goto (tgt := 19) hx (hd 24) (by decide) ?_
    refine r_sub [1, 2, 0] rfl ?_
    exact ih7 v41 M39
abbrev yX2_fifteensWith : MethodName := ({ cls := "CribbageRoom$Four", name := "fifteensWith", desc := "(I)I" } : Jvm.MethodName)
def tbX2_fifteensWith : List (Nat × Instr × Nat) := [(0, .aload_n 0, 1), (1, .getfield 27, 3), (4, .iload_n 1, 1), (5, .invokevirtual 71, 3), (8, .istore_n 2, 1), (9, .aload_n 0, 1), (10, .getfield 62, 3), (13, .iload_n 2, 1), (14, .ifCond .lt 21, 3), (17, .iload_n 2, 1), (18, .aload_n 0, 1), (19, .getfield 24, 3), (22, .arraylength, 1), (23, .if_icmp .ge 12, 3), (26, .aload_n 0, 1), (27, .getfield 24, 3), (30, .iload_n 2, 1), (31, .iaload, 1), (32, .goto 4, 3), (35, .iconst 0, 1), (36, .iadd, 1), (37, .ireturn, 1)]
theorem dX2_fifteensWith : ∀ q ∈ tbX2_fifteensWith, decode prog_4_method_6_code q.1 = .ok q.2 := by decide +kernel
set_option maxRecDepth 20000 in
theorem cX2_fifteensWith (l : Launch) (w : WX) (hL : Lay w) (t : Nat) (ht : Wat w t 2 0) (p1 : Int32) (M : Mem) : Ct l w yX2_fifteensWith prog_4_method_6_code 3 (Option.some FieldType.int) 2 41 evI (emC M) [.ref t, .int p1] M (FX2_fifteensWith t p1 M) := by
  refine ct_of (by decide) (Nat.le_of_ble_eq_true rfl) (fun x hl hx hb hz => ?_)
  subst hl
  have hd : ∀ i, DAt (xc x).code (tbX2_fifteensWith[i]?) := fun i => by rw [hb]; exact dat_of dX2_fifteensWith i
  show C x w (Qn x w evI (emC M)) 3 0 [(0, .ref t), (1, .int p1)] [] M (FX2_fifteensWith t p1 M)
  unfold FX2_fifteensWith
  refine r_aload_n (pc' := 1) hx (hd 0) rfl 0 rfl rfl ?_
  refine r_get (pc' := 4) (v := va_rf (mR M t 5)) hx (hd 1) fl_2_27 ht rfl (by decide) rfl ?_
  refine r_wt (fun wt3 => ?_)
  refine r_nmR (fun v1 hn2 => ?_)
  refine r_iload_n (pc' := 5) hx (hd 2) rfl 1 rfl rfl ?_
  refine r_bd (fun b4 e5 => ?_)
  have h6 := (fun b hb => wt3 _ _ _ ht 5 10 b rfl (hn2 ▸ hb)) b4 e5
  subst e5
  refine r_callV (pc' := 8) (As := [.int p1]) (rest := []) hx (hd 3) md_X10_valueOf mi_X10_valueOf ms_X10_valueOf ml_2_71 (cX10_valueOf (xl x) w hL b4 h6 p1 M) h6 rfl (by decide) ⟨Nat.le_of_ble_eq_true rfl, Nat.le_of_ble_eq_true rfl⟩ rfl rfl (Nat.le_of_ble_eq_true rfl) (fun r7 => .int r7 :: []) (fun _ => M) (fun _ => ⟨rfl, rfl⟩) rfl (fun r7 _ => ?_)
  refine r_istore_n (pc' := 9) (L' := [(2, .int r7), (0, .ref t), (1, .int p1)]) hx (hd 4) rfl (by decide) rfl rfl ?_
  refine r_aload_n (pc' := 10) hx (hd 5) rfl 1 rfl rfl ?_
  refine r_get (pc' := 13) (v := .int (mI M t 7)) hx (hd 6) fl_2_62 ht rfl (by decide) rfl ?_
  refine r_iload_n (pc' := 14) hx (hd 7) rfl 0 rfl rfl ?_
  refine r_jn1 36 (fun v8 => []) (fun v8 => [.int v8, .int (mI M t 7)]) (fun v8 => M) (fun v8 => ?_) (fun j9 hj10 => ?_)
  · skip
    refine r_iadd (pc' := 37) hx (hd 20) rfl ?_
    exact r_iret hx (hd 21) rfl rfl hz
  refine r_jn0 35 ([]) ([.int (mI M t 7)]) (M) (?_) (fun j11 hj12 => ?_)
  · skip
    refine r_iconst (pc' := 36) (v := 0) hx (hd 19) (by decide) rfl ?_
    exact hj10 0
  refine r_if_lt (tgt := 35) (pc' := 17) hx (hd 8) (by decide) (fun _ => ?_) rfl (fun _ => ?_)
  · skip
    refine r_sub [] rfl ?_
    exact hj12
  · skip
    refine r_iload_n (pc' := 18) hx (hd 9) rfl 0 rfl rfl ?_
    refine r_aload_n (pc' := 19) hx (hd 10) rfl 1 rfl rfl ?_
    refine r_get (pc' := 22) (v := .ref (t + 5)) hx (hd 11) fl_2_24 ht rfl (by decide) rfl ?_
    have h13 := hL.1 _ _ _ ht 4 5 20 32 rfl
    refine r_alen (pc' := 23) (v := 32) hx (hd 12) h13 (by decide) rfl ?_
    refine r_icmp_ge (tgt := 35) (pc' := 26) hx (hd 13) (by decide) (fun _ => ?_) rfl (fun _ => ?_)
    · skip
      refine r_sub [] rfl ?_
      exact hj12
    · skip
      refine r_aload_n (pc' := 27) hx (hd 14) rfl 1 rfl rfl ?_
      refine r_get (pc' := 30) (v := .ref (t + 5)) hx (hd 15) fl_2_24 ht rfl (by decide) rfl ?_
      have h14 := hL.1 _ _ _ ht 4 5 20 32 rfl
      refine r_iload_n (pc' := 31) hx (hd 16) rfl 0 rfl rfl ?_
      refine r_gd (fun h15 => ?_)
      refine r_iald (pc' := 32) (k := ix r7) hx (hd 17) h14 h15 rfl rfl ?_
      refine r_goto (tgt := 36) hx (hd 18) (by decide) ?_
      refine r_sub [] rfl ?_
      exact hj10 (mI M (t + 5) (ix r7))
abbrev yX10_flushItem : MethodName := ({ cls := "CribbageRoom$Worth", name := "flushItem", desc := "(II)I" } : Jvm.MethodName)
def tbX10_flushItem : List (Nat × Instr × Nat) := [(0, .iconst 2, 1), (1, .iload_n 0, 1), (2, .imul, 1), (3, .iload_n 1, 1), (4, .iadd, 1), (5, .iconst 4, 1), (6, .isub, 1), (7, .ireturn, 1)]
theorem dX10_flushItem : ∀ q ∈ tbX10_flushItem, decode prog_12_method_4_code q.1 = .ok q.2 := by decide +kernel
set_option maxRecDepth 20000 in
theorem cX10_flushItem (l : Launch) (w : WX) (hL : Lay w) (p0 : Int32) (p1 : Int32) (M : Mem) : Ct l w yX10_flushItem prog_12_method_4_code 2 (Option.some FieldType.int) 0 0 evI (emC M) [.int p0, .int p1] M (FX10_flushItem p0 p1) := by
  refine ct_of (by decide) (Nat.le_of_ble_eq_true rfl) (fun x hl hx hb hz => ?_)
  subst hl
  have hd : ∀ i, DAt (xc x).code (tbX10_flushItem[i]?) := fun i => by rw [hb]; exact dat_of dX10_flushItem i
  show C x w (Qn x w evI (emC M)) 2 0 [(0, .int p0), (1, .int p1)] [] M (FX10_flushItem p0 p1)
  unfold FX10_flushItem
  refine r_iconst (pc' := 1) (v := 2) hx (hd 0) (by decide) rfl ?_
  refine r_iload_n (pc' := 2) hx (hd 1) rfl 0 rfl rfl ?_
  refine r_imul (pc' := 3) hx (hd 2) rfl ?_
  refine r_iload_n (pc' := 4) hx (hd 3) rfl 1 rfl rfl ?_
  refine r_iadd (pc' := 5) hx (hd 4) rfl ?_
  refine r_iconst (pc' := 6) (v := 4) hx (hd 5) (by decide) rfl ?_
  refine r_isub (pc' := 7) hx (hd 6) rfl ?_
  exact r_iret hx (hd 7) rfl rfl hz
abbrev yX2_flushWith : MethodName := ({ cls := "CribbageRoom$Four", name := "flushWith", desc := "(I)I" } : Jvm.MethodName)
def tbX2_flushWith : List (Nat × Instr × Nat) := [(0, .aload_n 0, 1), (1, .getfield 49, 3), (4, .iconst (-1), 1), (5, .if_icmp .ne 5, 3), (8, .iconst 0, 1), (9, .ireturn, 1), (10, .iload_n 1, 1), (11, .iconst 4, 1), (12, .irem, 1), (13, .aload_n 0, 1), (14, .getfield 49, 3), (17, .if_icmp .ne 24, 3), (20, .aload_n 0, 1), (21, .getfield 27, 3), (24, .iconst 4, 1), (25, .aload_n 0, 1), (26, .getfield 31, 3), (29, .aload_n 0, 1), (30, .getfield 49, 3), (33, .iconst 5, 1), (34, .invokestatic 106, 3), (37, .invokevirtual 85, 3), (40, .ireturn, 1), (41, .aload_n 0, 1), (42, .getfield 31, 3), (45, .ifCond .ne 26, 3), (48, .aload_n 0, 1), (49, .getfield 27, 3), (52, .iconst 4, 1), (53, .aload_n 0, 1), (54, .getfield 31, 3), (57, .aload_n 0, 1), (58, .getfield 49, 3), (61, .iconst 4, 1), (62, .invokestatic 106, 3), (65, .invokevirtual 85, 3), (68, .goto 4, 3), (71, .iconst 0, 1), (72, .ireturn, 1)]
theorem dX2_flushWith : ∀ q ∈ tbX2_flushWith, decode prog_4_method_7_code q.1 = .ok q.2 := by decide +kernel
set_option maxRecDepth 20000 in
theorem cX2_flushWith (l : Launch) (w : WX) (hL : Lay w) (t : Nat) (ht : Wat w t 2 0) (p1 : Int32) (M : Mem) : Ct l w yX2_flushWith prog_4_method_7_code 2 (Option.some FieldType.int) 1 23 evI (emC M) [.ref t, .int p1] M (FX2_flushWith t p1 M) := by
  refine ct_of (by decide) (Nat.le_of_ble_eq_true rfl) (fun x hl hx hb hz => ?_)
  subst hl
  have hd : ∀ i, DAt (xc x).code (tbX2_flushWith[i]?) := fun i => by rw [hb]; exact dat_of dX2_flushWith i
  show C x w (Qn x w evI (emC M)) 2 0 [(0, .ref t), (1, .int p1)] [] M (FX2_flushWith t p1 M)
  unfold FX2_flushWith
  refine r_aload_n (pc' := 1) hx (hd 0) rfl 0 rfl rfl ?_
  refine r_get (pc' := 4) (v := .int (mI M t 8)) hx (hd 1) fl_2_49 ht rfl (by decide) rfl ?_
  refine r_iconst (pc' := 5) (v := (-1)) hx (hd 2) (by decide) rfl ?_
  refine r_icmp_ne (tgt := 10) (pc' := 8) hx (hd 3) (by decide) (fun _ => ?_) rfl (fun _ => ?_)
  · skip
    refine r_iload_n (pc' := 11) hx (hd 6) rfl 1 rfl rfl ?_
    refine r_iconst (pc' := 12) (v := 4) hx (hd 7) (by decide) rfl ?_
    refine r_irem (pc' := 13) hx (hd 8) (by decide) rfl ?_
    refine r_aload_n (pc' := 14) hx (hd 9) rfl 0 rfl rfl ?_
    refine r_get (pc' := 17) (v := .int (mI M t 8)) hx (hd 10) fl_2_49 ht rfl (by decide) rfl ?_
    refine r_icmp_ne (tgt := 41) (pc' := 20) hx (hd 11) (by decide) (fun _ => ?_) rfl (fun _ => ?_)
    · skip
      refine r_aload_n (pc' := 42) hx (hd 23) rfl 0 rfl rfl ?_
      refine r_get (pc' := 45) (v := .int (mI M t 6)) hx (hd 24) fl_2_31 ht rfl (by decide) rfl ?_
      refine r_jn1 72 (fun v1 => []) (fun v1 => [.int v1]) (fun v1 => M) (fun v1 => ?_) (fun j2 hj3 => ?_)
      · skip
        exact r_iret hx (hd 38) rfl rfl hz
      refine r_if_ne (tgt := 71) (pc' := 48) hx (hd 25) (by decide) (fun _ => ?_) rfl (fun _ => ?_)
      · skip
        refine r_iconst (pc' := 72) (v := 0) hx (hd 37) (by decide) rfl ?_
        refine r_sub [] rfl ?_
        exact hj3 0
      · skip
        refine r_aload_n (pc' := 49) hx (hd 26) rfl 0 rfl rfl ?_
        refine r_get (pc' := 52) (v := va_rf (mR M t 5)) hx (hd 27) fl_2_27 ht rfl (by decide) rfl ?_
        refine r_wt (fun wt6 => ?_)
        refine r_nmR (fun v4 hn5 => ?_)
        refine r_iconst (pc' := 53) (v := 4) hx (hd 28) (by decide) rfl ?_
        refine r_aload_n (pc' := 54) hx (hd 29) rfl 0 rfl rfl ?_
        refine r_get (pc' := 57) (v := .int (mI M t 6)) hx (hd 30) fl_2_31 ht rfl (by decide) rfl ?_
        refine r_aload_n (pc' := 58) hx (hd 31) rfl 0 rfl rfl ?_
        refine r_get (pc' := 61) (v := .int (mI M t 8)) hx (hd 32) fl_2_49 ht rfl (by decide) rfl ?_
        refine r_iconst (pc' := 62) (v := 4) hx (hd 33) (by decide) rfl ?_
        refine r_callS (pc' := 65) (As := [.int (mI M t 8), .int 4]) (rest := [.int (mI M t 6), .int 4, va_rf v4]) hx (hd 34) md_X10_flushItem mst_X10_flushItem ml_2_106 (cX10_flushItem (xl x) w hL (mI M t 8) 4 M) ⟨Nat.le_of_ble_eq_true rfl, Nat.le_of_ble_eq_true rfl⟩ rfl rfl (by cases v4 <;> exact Nat.le_of_ble_eq_true rfl) (fun r7 => .int r7 :: [.int (mI M t 6), .int 4, va_rf v4]) (fun _ => M) (fun _ => ⟨rfl, rfl⟩) rfl (fun r7 _ => ?_)
        refine r_bd (fun b8 e9 => ?_)
        have h10 := (fun b hb => wt6 _ _ _ ht 5 10 b rfl (hn5 ▸ hb)) b8 e9
        subst e9
        refine r_callV (pc' := 68) (As := [.int 4, .int (mI M t 6), .int r7]) (rest := []) hx (hd 35) md_X10_countOf mi_X10_countOf ms_X10_countOf ml_2_85 (cX10_countOf (xl x) w hL b8 h10 4 (mI M t 6) r7 M) h10 rfl (by decide) ⟨Nat.le_of_ble_eq_true rfl, Nat.le_of_ble_eq_true rfl⟩ rfl rfl (Nat.le_of_ble_eq_true rfl) (fun r11 => .int r11 :: []) (fun _ => M) (fun _ => ⟨rfl, rfl⟩) rfl (fun r11 _ => ?_)
        refine r_goto (tgt := 72) hx (hd 36) (by decide) ?_
        refine r_sub [] rfl ?_
        exact hj3 r11
    · skip
      refine r_aload_n (pc' := 21) hx (hd 12) rfl 0 rfl rfl ?_
      refine r_get (pc' := 24) (v := va_rf (mR M t 5)) hx (hd 13) fl_2_27 ht rfl (by decide) rfl ?_
      refine r_wt (fun wt14 => ?_)
      refine r_nmR (fun v12 hn13 => ?_)
      refine r_iconst (pc' := 25) (v := 4) hx (hd 14) (by decide) rfl ?_
      refine r_aload_n (pc' := 26) hx (hd 15) rfl 0 rfl rfl ?_
      refine r_get (pc' := 29) (v := .int (mI M t 6)) hx (hd 16) fl_2_31 ht rfl (by decide) rfl ?_
      refine r_aload_n (pc' := 30) hx (hd 17) rfl 0 rfl rfl ?_
      refine r_get (pc' := 33) (v := .int (mI M t 8)) hx (hd 18) fl_2_49 ht rfl (by decide) rfl ?_
      refine r_iconst (pc' := 34) (v := 5) hx (hd 19) (by decide) rfl ?_
      refine r_callS (pc' := 37) (As := [.int (mI M t 8), .int 5]) (rest := [.int (mI M t 6), .int 4, va_rf v12]) hx (hd 20) md_X10_flushItem mst_X10_flushItem ml_2_106 (cX10_flushItem (xl x) w hL (mI M t 8) 5 M) ⟨Nat.le_of_ble_eq_true rfl, Nat.le_of_ble_eq_true rfl⟩ rfl rfl (by cases v12 <;> exact Nat.le_of_ble_eq_true rfl) (fun r15 => .int r15 :: [.int (mI M t 6), .int 4, va_rf v12]) (fun _ => M) (fun _ => ⟨rfl, rfl⟩) rfl (fun r15 _ => ?_)
      refine r_bd (fun b16 e17 => ?_)
      have h18 := (fun b hb => wt14 _ _ _ ht 5 10 b rfl (hn13 ▸ hb)) b16 e17
      subst e17
      refine r_callV (pc' := 40) (As := [.int 4, .int (mI M t 6), .int r15]) (rest := []) hx (hd 21) md_X10_countOf mi_X10_countOf ms_X10_countOf ml_2_85 (cX10_countOf (xl x) w hL b16 h18 4 (mI M t 6) r15 M) h18 rfl (by decide) ⟨Nat.le_of_ble_eq_true rfl, Nat.le_of_ble_eq_true rfl⟩ rfl rfl (Nat.le_of_ble_eq_true rfl) (fun r19 => .int r19 :: []) (fun _ => M) (fun _ => ⟨rfl, rfl⟩) rfl (fun r19 _ => ?_)
      exact r_iret hx (hd 22) rfl rfl hz
  · skip
    refine r_iconst (pc' := 9) (v := 0) hx (hd 4) (by decide) rfl ?_
    exact r_iret hx (hd 5) rfl rfl hz
abbrev yX2_nobsWith : MethodName := ({ cls := "CribbageRoom$Four", name := "nobsWith", desc := "(I)I" } : Jvm.MethodName)
def tbX2_nobsWith : List (Nat × Instr × Nat) := [(0, .aload_n 0, 1), (1, .getfield 35, 3), (4, .bipush 40, 2), (6, .iload_n 1, 1), (7, .iconst 4, 1), (8, .irem, 1), (9, .iadd, 1), (10, .invokestatic 109, 3), (13, .ifCond .eq 21, 3), (16, .aload_n 0, 1), (17, .getfield 27, 3), (20, .iconst 5, 1), (21, .aload_n 0, 1), (22, .getfield 31, 3), (25, .iload_n 1, 1), (26, .iconst 4, 1), (27, .irem, 1), (28, .invokevirtual 85, 3), (31, .goto 4, 3), (34, .iconst 0, 1), (35, .ireturn, 1)]
theorem dX2_nobsWith : ∀ q ∈ tbX2_nobsWith, decode prog_4_method_8_code q.1 = .ok q.2 := by decide +kernel
set_option maxRecDepth 20000 in
theorem cX2_nobsWith (l : Launch) (w : WX) (hL : Lay w) (t : Nat) (ht : Wat w t 2 0) (p1 : Int32) (M : Mem) : Ct l w yX2_nobsWith prog_4_method_8_code 2 (Option.some FieldType.int) 2 42 evI (emC M) [.ref t, .int p1] M (FX2_nobsWith t p1 M) := by
  refine ct_of (by decide) (Nat.le_of_ble_eq_true rfl) (fun x hl hx hb hz => ?_)
  subst hl
  have hd : ∀ i, DAt (xc x).code (tbX2_nobsWith[i]?) := fun i => by rw [hb]; exact dat_of dX2_nobsWith i
  show C x w (Qn x w evI (emC M)) 2 0 [(0, .ref t), (1, .int p1)] [] M (FX2_nobsWith t p1 M)
  unfold FX2_nobsWith
  refine r_aload_n (pc' := 1) hx (hd 0) rfl 0 rfl rfl ?_
  refine r_get (pc' := 4) (v := .long (mJ M t 9)) hx (hd 1) fl_2_35 ht rfl (by decide) rfl ?_
  refine r_bipush (pc' := 6) (v := 40) hx (hd 2) (by decide) rfl ?_
  refine r_iload_n (pc' := 7) hx (hd 3) rfl 1 rfl rfl ?_
  refine r_iconst (pc' := 8) (v := 4) hx (hd 4) (by decide) rfl ?_
  refine r_irem (pc' := 9) hx (hd 5) (by decide) rfl ?_
  refine r_iadd (pc' := 10) hx (hd 6) rfl ?_
  refine r_callSN (pc' := 13) (As := [.long (mJ M t 9), .int (40 + (irm p1 4))]) (rest := []) hx (hd 7) md_X11_has mst_X11_has ml_2_109 (cX11_has (xl x) w hL (mJ M t 9) (40 + (irm p1 4)) M) ⟨Nat.le_of_ble_eq_true rfl, Nat.le_of_ble_eq_true rfl⟩ rfl rfl (Nat.le_of_ble_eq_true rfl) (fun r1 => .int r1 :: []) (fun _ => M) (fun _ => ⟨rfl, rfl⟩) rfl (fun r1 _ => ?_)
  refine r_jn1 35 (fun v2 => []) (fun v2 => [.int v2]) (fun v2 => M) (fun v2 => ?_) (fun j3 hj4 => ?_)
  · skip
    exact r_iret hx (hd 20) rfl rfl hz
  refine r_if_eq (tgt := 34) (pc' := 16) hx (hd 8) (by decide) (fun _ => ?_) rfl (fun _ => ?_)
  · skip
    refine r_iconst (pc' := 35) (v := 0) hx (hd 19) (by decide) rfl ?_
    refine r_sub [] rfl ?_
    exact hj4 0
  · skip
    refine r_aload_n (pc' := 17) hx (hd 9) rfl 0 rfl rfl ?_
    refine r_get (pc' := 20) (v := va_rf (mR M t 5)) hx (hd 10) fl_2_27 ht rfl (by decide) rfl ?_
    refine r_wt (fun wt7 => ?_)
    refine r_nmR (fun v5 hn6 => ?_)
    refine r_iconst (pc' := 21) (v := 5) hx (hd 11) (by decide) rfl ?_
    refine r_aload_n (pc' := 22) hx (hd 12) rfl 0 rfl rfl ?_
    refine r_get (pc' := 25) (v := .int (mI M t 6)) hx (hd 13) fl_2_31 ht rfl (by decide) rfl ?_
    refine r_iload_n (pc' := 26) hx (hd 14) rfl 1 rfl rfl ?_
    refine r_iconst (pc' := 27) (v := 4) hx (hd 15) (by decide) rfl ?_
    refine r_irem (pc' := 28) hx (hd 16) (by decide) rfl ?_
    refine r_bd (fun b8 e9 => ?_)
    have h10 := (fun b hb => wt7 _ _ _ ht 5 10 b rfl (hn6 ▸ hb)) b8 e9
    subst e9
    refine r_callV (pc' := 31) (As := [.int 5, .int (mI M t 6), .int (irm p1 4)]) (rest := []) hx (hd 17) md_X10_countOf mi_X10_countOf ms_X10_countOf ml_2_85 (cX10_countOf (xl x) w hL b8 h10 5 (mI M t 6) (irm p1 4) M) h10 rfl (by decide) ⟨Nat.le_of_ble_eq_true rfl, Nat.le_of_ble_eq_true rfl⟩ rfl rfl (Nat.le_of_ble_eq_true rfl) (fun r11 => .int r11 :: []) (fun _ => M) (fun _ => ⟨rfl, rfl⟩) rfl (fun r11 _ => ?_)
    refine r_goto (tgt := 35) hx (hd 18) (by decide) ?_
    refine r_sub [] rfl ?_
    exact hj4 r11
abbrev yX2_part : MethodName := ({ cls := "CribbageRoom$Four", name := "part", desc := "(II)I" } : Jvm.MethodName)
def tbX2_part : List (Nat × Instr × Nat) := [(0, .aload_n 0, 1), (1, .getfield 27, 3), (4, .ifnull 10, 3), (7, .iload_n 1, 1), (8, .invokestatic 93, 3), (11, .ifCond .ne 5, 3), (14, .iconst 0, 1), (15, .ireturn, 1), (16, .iload_n 1, 1), (17, .iconst 4, 1), (18, .idiv, 1), (19, .istore_n 3, 1), (20, .iload_n 2, 1), (21, .tableswitch 93 0 4 #[35, 67, 73, 80, 87], 35), (56, .aload_n 0, 1), (57, .iload_n 1, 1), (58, .invokevirtual 97, 3), (61, .aload_n 0, 1), (62, .getfield 18, 3), (65, .iload_n 3, 1), (66, .iaload, 1), (67, .iadd, 1), (68, .aload_n 0, 1), (69, .getfield 21, 3), (72, .iload_n 3, 1), (73, .iaload, 1), (74, .iadd, 1), (75, .aload_n 0, 1), (76, .iload_n 1, 1), (77, .invokevirtual 100, 3), (80, .iadd, 1), (81, .aload_n 0, 1), (82, .iload_n 1, 1), (83, .invokevirtual 103, 3), (86, .iadd, 1), (87, .ireturn, 1), (88, .aload_n 0, 1), (89, .iload_n 1, 1), (90, .invokevirtual 97, 3), (93, .ireturn, 1), (94, .aload_n 0, 1), (95, .getfield 18, 3), (98, .iload_n 3, 1), (99, .iaload, 1), (100, .ireturn, 1), (101, .aload_n 0, 1), (102, .getfield 21, 3), (105, .iload_n 3, 1), (106, .iaload, 1), (107, .ireturn, 1), (108, .aload_n 0, 1), (109, .iload_n 1, 1), (110, .invokevirtual 100, 3), (113, .ireturn, 1), (114, .aload_n 0, 1), (115, .iload_n 1, 1), (116, .invokevirtual 103, 3), (119, .ireturn, 1)]
theorem dX2_part : ∀ q ∈ tbX2_part, decode prog_4_method_5_code q.1 = .ok q.2 := by decide +kernel
set_option maxRecDepth 20000 in
theorem cX2_part (l : Launch) (w : WX) (hL : Lay w) (t : Nat) (ht : Wat w t 2 0) (p1 : Int32) (p2 : Int32) (M : Mem) : Ct l w yX2_part prog_4_method_5_code 4 (Option.some FieldType.int) 3 63 evI (emC M) [.ref t, .int p1, .int p2] M (FX2_part t p1 p2 M) := by
  refine ct_of (by decide) (Nat.le_of_ble_eq_true rfl) (fun x hl hx hb hz => ?_)
  subst hl
  have hd : ∀ i, DAt (xc x).code (tbX2_part[i]?) := fun i => by rw [hb]; exact dat_of dX2_part i
  show C x w (Qn x w evI (emC M)) 4 0 [(0, .ref t), (1, .int p1), (2, .int p2)] [] M (FX2_part t p1 p2 M)
  unfold FX2_part
  refine r_aload_n (pc' := 1) hx (hd 0) rfl 0 rfl rfl ?_
  refine r_get (pc' := 4) (v := va_rf (mR M t 5)) hx (hd 1) fl_2_27 ht rfl (by decide) rfl ?_
  refine r_wt (fun wt3 => ?_)
  refine r_nmR (fun v1 hn2 => ?_)
  refine r_jn0 14 ([]) ([]) (M) (?_) (fun j4 hj5 => ?_)
  · skip
    refine r_iconst (pc' := 15) (v := 0) hx (hd 6) (by decide) rfl ?_
    exact r_iret hx (hd 7) rfl rfl hz
  refine r_ifnull (tgt := 14) (pc' := 7) hx (hd 2) (by decide) (fun _ => ?_) rfl (fun _ _ => ?_)
  · skip
    refine r_sub [] rfl ?_
    exact hj5
  · skip
    refine r_iload_n (pc' := 8) hx (hd 3) rfl 1 rfl rfl ?_
    refine r_callSN (pc' := 11) (As := [.int p1]) (rest := []) hx (hd 4) md_X11_isCard mst_X11_isCard ml_2_93 (cX11_isCard (xl x) w hL p1 M) ⟨Nat.le_of_ble_eq_true rfl, Nat.le_of_ble_eq_true rfl⟩ rfl rfl (Nat.le_of_ble_eq_true rfl) (fun r7 => .int r7 :: []) (fun _ => M) (fun _ => ⟨rfl, rfl⟩) rfl (fun r7 _ => ?_)
    refine r_if_ne (tgt := 16) (pc' := 14) hx (hd 5) (by decide) (fun _ => ?_) rfl (fun _ => ?_)
    · skip
      refine r_iload_n (pc' := 17) hx (hd 8) rfl 1 rfl rfl ?_
      refine r_iconst (pc' := 18) (v := 4) hx (hd 9) (by decide) rfl ?_
      refine r_idiv (pc' := 19) hx (hd 10) (by decide) rfl ?_
      refine r_nmI (fun v8 => ?_)
      refine r_istore_n (pc' := 20) (L' := [(3, .int v8), (0, .ref t), (1, .int p1), (2, .int p2)]) hx (hd 11) rfl (by decide) rfl rfl ?_
      refine r_iload_n (pc' := 21) hx (hd 12) rfl 3 rfl rfl ?_
      refine r_table (td := 114) [56, 88, 94, 101, 108] hx (hd 13) rfl rfl rfl (by decide) ?_ ?_
      · skip
        refine r_aload_n (pc' := 115) hx (hd 54) rfl 1 rfl rfl ?_
        refine r_iload_n (pc' := 116) hx (hd 55) rfl 2 rfl rfl ?_
        refine r_callV (pc' := 119) (As := [.int p1]) (rest := []) hx (hd 56) md_X2_nobsWith mi_X2_nobsWith ms_X2_nobsWith ml_2_103 (cX2_nobsWith (xl x) w hL t ht p1 M) ht rfl (by decide) ⟨Nat.le_of_ble_eq_true rfl, Nat.le_of_ble_eq_true rfl⟩ rfl rfl (Nat.le_of_ble_eq_true rfl) (fun r9 => .int r9 :: []) (fun _ => M) (fun _ => ⟨rfl, rfl⟩) rfl (fun r9 _ => ?_)
        exact r_iret hx (hd 57) rfl rfl hz
      refine ⟨?_, ?_, ?_, ?_, ?_,  trivial⟩
      · skip
        refine r_aload_n (pc' := 57) hx (hd 14) rfl 1 rfl rfl ?_
        refine r_iload_n (pc' := 58) hx (hd 15) rfl 2 rfl rfl ?_
        refine r_callV (pc' := 61) (As := [.int p1]) (rest := []) hx (hd 16) md_X2_fifteensWith mi_X2_fifteensWith ms_X2_fifteensWith ml_2_97 (cX2_fifteensWith (xl x) w hL t ht p1 M) ht rfl (by decide) ⟨Nat.le_of_ble_eq_true rfl, Nat.le_of_ble_eq_true rfl⟩ rfl rfl (Nat.le_of_ble_eq_true rfl) (fun r10 => .int r10 :: []) (fun _ => M) (fun _ => ⟨rfl, rfl⟩) rfl (fun r10 _ => ?_)
        refine r_aload_n (pc' := 62) hx (hd 17) rfl 1 rfl rfl ?_
        refine r_get (pc' := 65) (v := .ref (t + 3)) hx (hd 18) fl_2_18 ht rfl (by decide) rfl ?_
        have h11 := hL.1 _ _ _ ht 2 3 20 13 rfl
        refine r_iload_n (pc' := 66) hx (hd 19) rfl 0 rfl rfl ?_
        refine r_gd (fun h12 => ?_)
        refine r_iald (pc' := 67) (k := ix v8) hx (hd 20) h11 h12 rfl rfl ?_
        refine r_iadd (pc' := 68) hx (hd 21) rfl ?_
        refine r_aload_n (pc' := 69) hx (hd 22) rfl 1 rfl rfl ?_
        refine r_get (pc' := 72) (v := .ref (t + 4)) hx (hd 23) fl_2_21 ht rfl (by decide) rfl ?_
        have h13 := hL.1 _ _ _ ht 3 4 20 13 rfl
        refine r_iload_n (pc' := 73) hx (hd 24) rfl 0 rfl rfl ?_
        refine r_gd (fun h14 => ?_)
        refine r_iald (pc' := 74) (k := ix v8) hx (hd 25) h13 h14 rfl rfl ?_
        refine r_iadd (pc' := 75) hx (hd 26) rfl ?_
        refine r_aload_n (pc' := 76) hx (hd 27) rfl 1 rfl rfl ?_
        refine r_iload_n (pc' := 77) hx (hd 28) rfl 2 rfl rfl ?_
        refine r_callV (pc' := 80) (As := [.int p1]) (rest := [.int ((r10 + (mI M (t + 3) (ix v8))) + (mI M (t + 4) (ix v8)))]) hx (hd 29) md_X2_flushWith mi_X2_flushWith ms_X2_flushWith ml_2_100 (cX2_flushWith (xl x) w hL t ht p1 M) ht rfl (by decide) ⟨Nat.le_of_ble_eq_true rfl, Nat.le_of_ble_eq_true rfl⟩ rfl rfl (Nat.le_of_ble_eq_true rfl) (fun r15 => .int r15 :: [.int ((r10 + (mI M (t + 3) (ix v8))) + (mI M (t + 4) (ix v8)))]) (fun _ => M) (fun _ => ⟨rfl, rfl⟩) rfl (fun r15 _ => ?_)
        refine r_iadd (pc' := 81) hx (hd 30) rfl ?_
        refine r_aload_n (pc' := 82) hx (hd 31) rfl 1 rfl rfl ?_
        refine r_iload_n (pc' := 83) hx (hd 32) rfl 2 rfl rfl ?_
        refine r_callV (pc' := 86) (As := [.int p1]) (rest := [.int (((r10 + (mI M (t + 3) (ix v8))) + (mI M (t + 4) (ix v8))) + r15)]) hx (hd 33) md_X2_nobsWith mi_X2_nobsWith ms_X2_nobsWith ml_2_103 (cX2_nobsWith (xl x) w hL t ht p1 M) ht rfl (by decide) ⟨Nat.le_of_ble_eq_true rfl, Nat.le_of_ble_eq_true rfl⟩ rfl rfl (Nat.le_of_ble_eq_true rfl) (fun r16 => .int r16 :: [.int (((r10 + (mI M (t + 3) (ix v8))) + (mI M (t + 4) (ix v8))) + r15)]) (fun _ => M) (fun _ => ⟨rfl, rfl⟩) rfl (fun r16 _ => ?_)
        refine r_iadd (pc' := 87) hx (hd 34) rfl ?_
        exact r_iret hx (hd 35) rfl rfl hz
      · skip
        refine r_aload_n (pc' := 89) hx (hd 36) rfl 1 rfl rfl ?_
        refine r_iload_n (pc' := 90) hx (hd 37) rfl 2 rfl rfl ?_
        refine r_callV (pc' := 93) (As := [.int p1]) (rest := []) hx (hd 38) md_X2_fifteensWith mi_X2_fifteensWith ms_X2_fifteensWith ml_2_97 (cX2_fifteensWith (xl x) w hL t ht p1 M) ht rfl (by decide) ⟨Nat.le_of_ble_eq_true rfl, Nat.le_of_ble_eq_true rfl⟩ rfl rfl (Nat.le_of_ble_eq_true rfl) (fun r17 => .int r17 :: []) (fun _ => M) (fun _ => ⟨rfl, rfl⟩) rfl (fun r17 _ => ?_)
        exact r_iret hx (hd 39) rfl rfl hz
      · skip
        refine r_aload_n (pc' := 95) hx (hd 40) rfl 1 rfl rfl ?_
        refine r_get (pc' := 98) (v := .ref (t + 3)) hx (hd 41) fl_2_18 ht rfl (by decide) rfl ?_
        have h18 := hL.1 _ _ _ ht 2 3 20 13 rfl
        refine r_iload_n (pc' := 99) hx (hd 42) rfl 0 rfl rfl ?_
        refine r_gd (fun h19 => ?_)
        refine r_iald (pc' := 100) (k := ix v8) hx (hd 43) h18 h19 rfl rfl ?_
        exact r_iret hx (hd 44) rfl rfl hz
      · skip
        refine r_aload_n (pc' := 102) hx (hd 45) rfl 1 rfl rfl ?_
        refine r_get (pc' := 105) (v := .ref (t + 4)) hx (hd 46) fl_2_21 ht rfl (by decide) rfl ?_
        have h20 := hL.1 _ _ _ ht 3 4 20 13 rfl
        refine r_iload_n (pc' := 106) hx (hd 47) rfl 0 rfl rfl ?_
        refine r_gd (fun h21 => ?_)
        refine r_iald (pc' := 107) (k := ix v8) hx (hd 48) h20 h21 rfl rfl ?_
        exact r_iret hx (hd 49) rfl rfl hz
      · skip
        refine r_aload_n (pc' := 109) hx (hd 50) rfl 1 rfl rfl ?_
        refine r_iload_n (pc' := 110) hx (hd 51) rfl 2 rfl rfl ?_
        refine r_callV (pc' := 113) (As := [.int p1]) (rest := []) hx (hd 52) md_X2_flushWith mi_X2_flushWith ms_X2_flushWith ml_2_100 (cX2_flushWith (xl x) w hL t ht p1 M) ht rfl (by decide) ⟨Nat.le_of_ble_eq_true rfl, Nat.le_of_ble_eq_true rfl⟩ rfl rfl (Nat.le_of_ble_eq_true rfl) (fun r22 => .int r22 :: []) (fun _ => M) (fun _ => ⟨rfl, rfl⟩) rfl (fun r22 _ => ?_)
        exact r_iret hx (hd 53) rfl rfl hz
    · skip
      refine r_sub [] rfl ?_
      exact hj5
abbrev yX11_showAll : MethodName := ({ cls := "CribbageRoom", name := "showAll", desc := "(LCribbageRoom$Table;)I" } : Jvm.MethodName)
def tbX11_showAll : List (Nat × Instr × Nat) := [(0, .iconst 1, 1), (1, .aload_n 1, 1), (2, .getfield 166, 3), (5, .isub, 1), (6, .istore_n 2, 1), (7, .aload_n 0, 1), (8, .getfield 67, 3), (11, .aload_n 1, 1), (12, .iload_n 2, 1), (13, .invokevirtual 406, 3), (16, .iconst 0, 1), (17, .aload_n 0, 1), (18, .getfield 57, 3), (21, .invokevirtual 304, 3), (24, .aload_n 0, 1), (25, .getfield 67, 3), (28, .aload_n 1, 1), (29, .getfield 169, 3), (32, .iconst 0, 1), (33, .invokevirtual 308, 3), (36, .istore_n 3, 1), (37, .aload_n 0, 1), (38, .getfield 67, 3), (41, .aload_n 1, 1), (42, .aload_n 1, 1), (43, .getfield 166, 3), (46, .invokevirtual 406, 3), (49, .iconst 0, 1), (50, .aload_n 0, 1), (51, .getfield 57, 3), (54, .invokevirtual 304, 3), (57, .aload_n 0, 1), (58, .getfield 67, 3), (61, .aload_n 1, 1), (62, .getfield 169, 3), (65, .iconst 0, 1), (66, .invokevirtual 308, 3), (69, .istore 4, 2), (71, .aload_n 0, 1), (72, .getfield 67, 3), (75, .aload_n 1, 1), (76, .getfield 172, 3), (79, .iconst 1, 1), (80, .aload_n 0, 1), (81, .getfield 57, 3), (84, .invokevirtual 304, 3), (87, .iload 4, 2), (89, .aload_n 0, 1), (90, .getfield 67, 3), (93, .aload_n 1, 1), (94, .getfield 169, 3), (97, .iconst 0, 1), (98, .invokevirtual 308, 3), (101, .iadd, 1), (102, .istore 4, 2), (104, .aload_n 1, 1), (105, .iload_n 2, 1), (106, .iload_n 3, 1), (107, .invokevirtual 409, 3), (110, .aload_n 1, 1), (111, .aload_n 1, 1), (112, .getfield 166, 3), (115, .iload 4, 2), (117, .invokevirtual 409, 3), (120, .aload_n 1, 1), (121, .iconst 3, 1), (122, .putfield 163, 3), (125, .iload_n 3, 1), (126, .iload 4, 2), (128, .iadd, 1), (129, .ireturn, 1)]
theorem dX11_showAll : ∀ q ∈ tbX11_showAll, decode prog_1_method_50_code q.1 = .ok q.2 := by decide +kernel
set_option maxRecDepth 20000 in
theorem cX11_showAll (l : Launch) (w : WX) (hL : Lay w) (t : Nat) (ht : Wat w t 11 0) (p1 : Nat) (hp1 : Wat w p1 8 0) (M : Mem) : Ct l w yX11_showAll prog_1_method_50_code 5 (Option.some FieldType.int) 4 96 evIM emM [.ref t, .ref p1] M (FX11_showAll t p1 M) := by
  refine ct_of (by decide) (Nat.le_of_ble_eq_true rfl) (fun x hl hx hb hz => ?_)
  subst hl
  have hd : ∀ i, DAt (xc x).code (tbX11_showAll[i]?) := fun i => by rw [hb]; exact dat_of dX11_showAll i
  show C x w (Qn x w evIM emM) 5 0 [(0, .ref t), (1, .ref p1)] [] M (FX11_showAll t p1 M)
  unfold FX11_showAll
  refine r_iconst (pc' := 1) (v := 1) hx (hd 0) (by decide) rfl ?_
  refine r_aload_n (pc' := 2) hx (hd 1) rfl 1 rfl rfl ?_
  refine r_get (pc' := 5) (v := .int (mI M p1 6)) hx (hd 2) fl_11_166 hp1 rfl (by decide) rfl ?_
  refine r_isub (pc' := 6) hx (hd 3) rfl ?_
  refine r_nmI (fun v1 => ?_)
  refine r_istore_n (pc' := 7) (L' := [(2, .int v1), (0, .ref t), (1, .ref p1)]) hx (hd 4) rfl (by decide) rfl rfl ?_
  refine r_aload_n (pc' := 8) hx (hd 5) rfl 1 rfl rfl ?_
  refine r_get (pc' := 11) (v := .ref (t + 203)) hx (hd 6) fl_11_67 ht rfl (by decide) rfl ?_
  have h2 := hL.1 _ _ _ ht 10 203 2 0 rfl
  refine r_aload_n (pc' := 12) hx (hd 7) rfl 2 rfl rfl ?_
  refine r_iload_n (pc' := 13) hx (hd 8) rfl 0 rfl rfl ?_
  refine r_callV (pc' := 16) (As := [.int v1]) (rest := [.ref (t + 203)]) hx (hd 9) md_X8_handOf mi_X8_handOf ms_X8_handOf ml_11_406 (cX8_handOf (xl x) w hL p1 hp1 v1 M) hp1 rfl (by decide) ⟨Nat.le_of_ble_eq_true rfl, Nat.le_of_ble_eq_true rfl⟩ rfl rfl (Nat.le_of_ble_eq_true rfl) (fun r3 => .long r3 :: [.ref (t + 203)]) (fun _ => M) (fun _ => ⟨rfl, rfl⟩) rfl (fun r3 _ => ?_)
  refine r_iconst (pc' := 17) (v := 0) hx (hd 10) (by decide) rfl ?_
  refine r_aload_n (pc' := 18) hx (hd 11) rfl 1 rfl rfl ?_
  refine r_get (pc' := 21) (v := .ref (t + 179)) hx (hd 12) fl_11_57 ht rfl (by decide) rfl ?_
  have h4 := hL.1 _ _ _ ht 8 179 10 0 rfl
  refine r_callVU (pc' := 24) (As := [.long r3, .int 0, .ref (t + 179)]) (rest := []) hx (hd 13) md_X2_take mi_X2_take ms_X2_take ml_11_304 (cX2_take (xl x) w hL (t + 203) h2 r3 0 (t + 179) h4 M) h2 rfl (by decide) ⟨Nat.le_of_ble_eq_true rfl, Nat.le_of_ble_eq_true rfl⟩ rfl rfl (Nat.le_of_ble_eq_true rfl) rfl (fun M5 => ?_)
  refine r_aload_n (pc' := 25) hx (hd 14) rfl 1 rfl rfl ?_
  refine r_get (pc' := 28) (v := .ref (t + 203)) hx (hd 15) fl_11_67 ht rfl (by decide) rfl ?_
  have h6 := hL.1 _ _ _ ht 10 203 2 0 rfl
  refine r_aload_n (pc' := 29) hx (hd 16) rfl 2 rfl rfl ?_
  refine r_get (pc' := 32) (v := .int (mI M5 p1 7)) hx (hd 17) fl_11_169 hp1 rfl (by decide) rfl ?_
  refine r_iconst (pc' := 33) (v := 0) hx (hd 18) (by decide) rfl ?_
  refine r_callV (pc' := 36) (As := [.int (mI M5 p1 7), .int 0]) (rest := []) hx (hd 19) md_X2_part mi_X2_part ms_X2_part ml_11_308 (cX2_part (xl x) w hL (t + 203) h6 (mI M5 p1 7) 0 M5) h6 rfl (by decide) ⟨Nat.le_of_ble_eq_true rfl, Nat.le_of_ble_eq_true rfl⟩ rfl rfl (Nat.le_of_ble_eq_true rfl) (fun r7 => .int r7 :: []) (fun _ => M5) (fun _ => ⟨rfl, rfl⟩) rfl (fun r7 _ => ?_)
  refine r_istore_n (pc' := 37) (L' := [(3, .int r7), (2, .int v1), (0, .ref t), (1, .ref p1)]) hx (hd 20) rfl (by decide) rfl rfl ?_
  refine r_aload_n (pc' := 38) hx (hd 21) rfl 2 rfl rfl ?_
  refine r_get (pc' := 41) (v := .ref (t + 203)) hx (hd 22) fl_11_67 ht rfl (by decide) rfl ?_
  have h8 := hL.1 _ _ _ ht 10 203 2 0 rfl
  refine r_aload_n (pc' := 42) hx (hd 23) rfl 3 rfl rfl ?_
  refine r_aload_n (pc' := 43) hx (hd 24) rfl 3 rfl rfl ?_
  refine r_get (pc' := 46) (v := .int (mI M5 p1 6)) hx (hd 25) fl_11_166 hp1 rfl (by decide) rfl ?_
  refine r_callV (pc' := 49) (As := [.int (mI M5 p1 6)]) (rest := [.ref (t + 203)]) hx (hd 26) md_X8_handOf mi_X8_handOf ms_X8_handOf ml_11_406 (cX8_handOf (xl x) w hL p1 hp1 (mI M5 p1 6) M5) hp1 rfl (by decide) ⟨Nat.le_of_ble_eq_true rfl, Nat.le_of_ble_eq_true rfl⟩ rfl rfl (Nat.le_of_ble_eq_true rfl) (fun r9 => .long r9 :: [.ref (t + 203)]) (fun _ => M5) (fun _ => ⟨rfl, rfl⟩) rfl (fun r9 _ => ?_)
  refine r_iconst (pc' := 50) (v := 0) hx (hd 27) (by decide) rfl ?_
  refine r_aload_n (pc' := 51) hx (hd 28) rfl 2 rfl rfl ?_
  refine r_get (pc' := 54) (v := .ref (t + 179)) hx (hd 29) fl_11_57 ht rfl (by decide) rfl ?_
  have h10 := hL.1 _ _ _ ht 8 179 10 0 rfl
  refine r_callVU (pc' := 57) (As := [.long r9, .int 0, .ref (t + 179)]) (rest := []) hx (hd 30) md_X2_take mi_X2_take ms_X2_take ml_11_304 (cX2_take (xl x) w hL (t + 203) h8 r9 0 (t + 179) h10 M5) h8 rfl (by decide) ⟨Nat.le_of_ble_eq_true rfl, Nat.le_of_ble_eq_true rfl⟩ rfl rfl (Nat.le_of_ble_eq_true rfl) rfl (fun M11 => ?_)
  refine r_aload_n (pc' := 58) hx (hd 31) rfl 2 rfl rfl ?_
  refine r_get (pc' := 61) (v := .ref (t + 203)) hx (hd 32) fl_11_67 ht rfl (by decide) rfl ?_
  have h12 := hL.1 _ _ _ ht 10 203 2 0 rfl
  refine r_aload_n (pc' := 62) hx (hd 33) rfl 3 rfl rfl ?_
  refine r_get (pc' := 65) (v := .int (mI M11 p1 7)) hx (hd 34) fl_11_169 hp1 rfl (by decide) rfl ?_
  refine r_iconst (pc' := 66) (v := 0) hx (hd 35) (by decide) rfl ?_
  refine r_callV (pc' := 69) (As := [.int (mI M11 p1 7), .int 0]) (rest := []) hx (hd 36) md_X2_part mi_X2_part ms_X2_part ml_11_308 (cX2_part (xl x) w hL (t + 203) h12 (mI M11 p1 7) 0 M11) h12 rfl (by decide) ⟨Nat.le_of_ble_eq_true rfl, Nat.le_of_ble_eq_true rfl⟩ rfl rfl (Nat.le_of_ble_eq_true rfl) (fun r13 => .int r13 :: []) (fun _ => M11) (fun _ => ⟨rfl, rfl⟩) rfl (fun r13 _ => ?_)
  refine r_istore (pc' := 71) (L' := [(4, .int r13), (3, .int r7), (2, .int v1), (0, .ref t), (1, .ref p1)]) hx (hd 37) (by decide) rfl rfl ?_
  refine r_aload_n (pc' := 72) hx (hd 38) rfl 3 rfl rfl ?_
  refine r_get (pc' := 75) (v := .ref (t + 203)) hx (hd 39) fl_11_67 ht rfl (by decide) rfl ?_
  have h14 := hL.1 _ _ _ ht 10 203 2 0 rfl
  refine r_aload_n (pc' := 76) hx (hd 40) rfl 4 rfl rfl ?_
  refine r_get (pc' := 79) (v := .long (mJ M11 p1 3)) hx (hd 41) fl_11_172 hp1 rfl (by decide) rfl ?_
  refine r_iconst (pc' := 80) (v := 1) hx (hd 42) (by decide) rfl ?_
  refine r_aload_n (pc' := 81) hx (hd 43) rfl 3 rfl rfl ?_
  refine r_get (pc' := 84) (v := .ref (t + 179)) hx (hd 44) fl_11_57 ht rfl (by decide) rfl ?_
  have h15 := hL.1 _ _ _ ht 8 179 10 0 rfl
  refine r_callVU (pc' := 87) (As := [.long (mJ M11 p1 3), .int 1, .ref (t + 179)]) (rest := []) hx (hd 45) md_X2_take mi_X2_take ms_X2_take ml_11_304 (cX2_take (xl x) w hL (t + 203) h14 (mJ M11 p1 3) 1 (t + 179) h15 M11) h14 rfl (by decide) ⟨Nat.le_of_ble_eq_true rfl, Nat.le_of_ble_eq_true rfl⟩ rfl rfl (Nat.le_of_ble_eq_true rfl) rfl (fun M16 => ?_)
  refine r_iload (pc' := 89) hx (hd 46) 0 rfl rfl ?_
  refine r_aload_n (pc' := 90) hx (hd 47) rfl 3 rfl rfl ?_
  refine r_get (pc' := 93) (v := .ref (t + 203)) hx (hd 48) fl_11_67 ht rfl (by decide) rfl ?_
  have h17 := hL.1 _ _ _ ht 10 203 2 0 rfl
  refine r_aload_n (pc' := 94) hx (hd 49) rfl 4 rfl rfl ?_
  refine r_get (pc' := 97) (v := .int (mI M16 p1 7)) hx (hd 50) fl_11_169 hp1 rfl (by decide) rfl ?_
  refine r_iconst (pc' := 98) (v := 0) hx (hd 51) (by decide) rfl ?_
  refine r_callV (pc' := 101) (As := [.int (mI M16 p1 7), .int 0]) (rest := [.int r13]) hx (hd 52) md_X2_part mi_X2_part ms_X2_part ml_11_308 (cX2_part (xl x) w hL (t + 203) h17 (mI M16 p1 7) 0 M16) h17 rfl (by decide) ⟨Nat.le_of_ble_eq_true rfl, Nat.le_of_ble_eq_true rfl⟩ rfl rfl (Nat.le_of_ble_eq_true rfl) (fun r18 => .int r18 :: [.int r13]) (fun _ => M16) (fun _ => ⟨rfl, rfl⟩) rfl (fun r18 _ => ?_)
  refine r_iadd (pc' := 102) hx (hd 53) rfl ?_
  refine r_nmI (fun v19 => ?_)
  refine r_istore (pc' := 104) (L' := [(4, .int v19), (3, .int r7), (2, .int v1), (0, .ref t), (1, .ref p1)]) hx (hd 54) (by decide) rfl rfl ?_
  refine r_aload_n (pc' := 105) hx (hd 55) rfl 4 rfl rfl ?_
  refine r_iload_n (pc' := 106) hx (hd 56) rfl 2 rfl rfl ?_
  refine r_iload_n (pc' := 107) hx (hd 57) rfl 1 rfl rfl ?_
  refine r_callVU (pc' := 110) (As := [.int v1, .int r7]) (rest := []) hx (hd 58) md_X8_addPegs mi_X8_addPegs ms_X8_addPegs ml_11_409 (cX8_addPegs (xl x) w hL p1 hp1 v1 r7 M16) hp1 rfl (by decide) ⟨Nat.le_of_ble_eq_true rfl, Nat.le_of_ble_eq_true rfl⟩ rfl rfl (Nat.le_of_ble_eq_true rfl) rfl (fun M20 => ?_)
  refine r_aload_n (pc' := 111) hx (hd 59) rfl 4 rfl rfl ?_
  refine r_aload_n (pc' := 112) hx (hd 60) rfl 4 rfl rfl ?_
  refine r_get (pc' := 115) (v := .int (mI M20 p1 6)) hx (hd 61) fl_11_166 hp1 rfl (by decide) rfl ?_
  refine r_iload (pc' := 117) hx (hd 62) 0 rfl rfl ?_
  refine r_callVU (pc' := 120) (As := [.int (mI M20 p1 6), .int v19]) (rest := []) hx (hd 63) md_X8_addPegs mi_X8_addPegs ms_X8_addPegs ml_11_409 (cX8_addPegs (xl x) w hL p1 hp1 (mI M20 p1 6) v19 M20) hp1 rfl (by decide) ⟨Nat.le_of_ble_eq_true rfl, Nat.le_of_ble_eq_true rfl⟩ rfl rfl (Nat.le_of_ble_eq_true rfl) rfl (fun M21 => ?_)
  refine r_aload_n (pc' := 121) hx (hd 64) rfl 4 rfl rfl ?_
  refine r_iconst (pc' := 122) (v := 3) hx (hd 65) (by decide) rfl ?_
  refine r_putI (pc' := 125) hx (hd 66) fp_11_163 hp1 rfl (by decide) rfl (fun M22 => ?_)
  refine r_iload_n (pc' := 126) hx (hd 67) rfl 1 rfl rfl ?_
  refine r_iload (pc' := 128) hx (hd 68) 0 rfl rfl ?_
  refine r_iadd (pc' := 129) hx (hd 69) rfl ?_
  exact r_iret hx (hd 70) rfl rfl hz
abbrev yX11_makeShow : MethodName := ({ cls := "CribbageRoom", name := "makeShow", desc := "()I" } : Jvm.MethodName)
def tbX11_makeShow : List (Nat × Instr × Nat) := [(0, .aload_n 0, 1), (1, .getfield 12, 3), (4, .getfield 113, 3), (7, .astore_n 1, 1), (8, .aload_n 1, 1), (9, .getfield 163, 3), (12, .iconst 2, 1), (13, .if_icmp .ne 11, 3), (16, .aload_n 1, 1), (17, .getfield 181, 3), (20, .iconst (-1), 1), (21, .if_icmp .eq 6, 3), (24, .bipush (-3), 2), (26, .ireturn, 1), (27, .aload_n 0, 1), (28, .getfield 23, 3), (31, .aload_n 1, 1), (32, .iconst 3, 1), (33, .invokevirtual 387, 3), (36, .aload_n 0, 1), (37, .aload_n 1, 1), (38, .invokevirtual 403, 3), (41, .ireturn, 1)]
theorem dX11_makeShow : ∀ q ∈ tbX11_makeShow, decode prog_1_method_49_code q.1 = .ok q.2 := by decide +kernel
set_option maxRecDepth 20000 in
theorem cX11_makeShow (l : Launch) (w : WX) (hL : Lay w) (t : Nat) (ht : Wat w t 11 0) (M : Mem) : Ct l w yX11_makeShow prog_1_method_49_code 2 (Option.some FieldType.int) 5 120 evIM emM [.ref t] M (FX11_makeShow t M) := by
  refine ct_of (by decide) (Nat.le_of_ble_eq_true rfl) (fun x hl hx hb hz => ?_)
  subst hl
  have hd : ∀ i, DAt (xc x).code (tbX11_makeShow[i]?) := fun i => by rw [hb]; exact dat_of dX11_makeShow i
  show C x w (Qn x w evIM emM) 2 0 [(0, .ref t)] [] M (FX11_makeShow t M)
  unfold FX11_makeShow
  refine r_aload_n (pc' := 1) hx (hd 0) rfl 0 rfl rfl ?_
  refine r_get (pc' := 4) (v := .ref (t + 1)) hx (hd 1) fl_11_12 ht rfl (by decide) rfl ?_
  have h1 := hL.1 _ _ _ ht 0 1 6 0 rfl
  refine r_get (pc' := 7) (v := .ref ((t + 1) + 1)) hx (hd 2) fl_11_113 h1 rfl (by decide) rfl ?_
  have h2 := hL.1 _ _ _ h1 0 1 8 0 rfl
  refine r_astore_n (pc' := 8) (L' := [(1, .ref ((t + 1) + 1)), (0, .ref t)]) hx (hd 3) rfl (by decide) rfl rfl ?_
  refine r_aload_n (pc' := 9) hx (hd 4) rfl 0 rfl rfl ?_
  refine r_get (pc' := 12) (v := .int (mI M ((t + 1) + 1) 5)) hx (hd 5) fl_11_163 h2 rfl (by decide) rfl ?_
  refine r_iconst (pc' := 13) (v := 2) hx (hd 6) (by decide) rfl ?_
  refine r_jn0 24 ([]) ([]) (M) (?_) (fun j3 hj4 => ?_)
  · skip
    refine r_bipush (pc' := 26) (v := (-3)) hx (hd 12) (by decide) rfl ?_
    exact r_iret hx (hd 13) rfl rfl hz
  refine r_icmp_ne (tgt := 24) (pc' := 16) hx (hd 7) (by decide) (fun _ => ?_) rfl (fun _ => ?_)
  · skip
    refine r_sub [] rfl ?_
    exact hj4
  · skip
    refine r_aload_n (pc' := 17) hx (hd 8) rfl 0 rfl rfl ?_
    refine r_get (pc' := 20) (v := .int (mI M ((t + 1) + 1) 10)) hx (hd 9) fl_11_181 h2 rfl (by decide) rfl ?_
    refine r_iconst (pc' := 21) (v := (-1)) hx (hd 10) (by decide) rfl ?_
    refine r_icmp_eq (tgt := 27) (pc' := 24) hx (hd 11) (by decide) (fun _ => ?_) rfl (fun _ => ?_)
    · skip
      refine r_aload_n (pc' := 28) hx (hd 14) rfl 1 rfl rfl ?_
      refine r_get (pc' := 31) (v := .ref (t + 29)) hx (hd 15) fl_11_23 ht rfl (by decide) rfl ?_
      have h5 := hL.1 _ _ _ ht 2 29 4 0 rfl
      refine r_aload_n (pc' := 32) hx (hd 16) rfl 0 rfl rfl ?_
      refine r_iconst (pc' := 33) (v := 3) hx (hd 17) (by decide) rfl ?_
      refine r_callVU (pc' := 36) (As := [.ref ((t + 1) + 1), .int 3]) (rest := []) hx (hd 18) md_X4_push mi_X4_push ms_X4_push ml_11_387 (cX4_push (xl x) w hL (t + 29) h5 ((t + 1) + 1) h2 3 M) h5 rfl (by decide) ⟨Nat.le_of_ble_eq_true rfl, Nat.le_of_ble_eq_true rfl⟩ rfl rfl (Nat.le_of_ble_eq_true rfl) rfl (fun M6 => ?_)
      refine r_aload_n (pc' := 37) hx (hd 19) rfl 1 rfl rfl ?_
      refine r_aload_n (pc' := 38) hx (hd 20) rfl 0 rfl rfl ?_
      refine r_callVI (pc' := 41) (As := [.ref ((t + 1) + 1)]) (rest := []) hx (hd 21) md_X11_showAll mi_X11_showAll ms_X11_showAll ml_11_403 (cX11_showAll (xl x) w hL t ht ((t + 1) + 1) h2 M6) ht rfl (by decide) ⟨Nat.le_of_ble_eq_true rfl, Nat.le_of_ble_eq_true rfl⟩ rfl rfl (Nat.le_of_ble_eq_true rfl) (fun r8 => .int r8 :: []) (fun _ => rfl) rfl (fun r8 M7 => ?_)
      exact r_iret hx (hd 22) rfl rfl hz
    · skip
      refine r_sub [] rfl ?_
      exact hj4
abbrev yX11_runClause : MethodName := ({ cls := "CribbageRoom", name := "runClause", desc := "(LCribbageRoom$Text;I)Z" } : Jvm.MethodName)
def tbX11_runClause : List (Nat × Instr × Nat) := [(0, .aload_n 1, 1), (1, .iload_n 2, 1), (2, .iconst 0, 1), (3, .invokevirtual 418, 3), (6, .istore_n 3, 1), (7, .aload_n 1, 1), (8, .iload_n 2, 1), (9, .iconst 1, 1), (10, .invokevirtual 418, 3), (13, .istore 4, 2), (15, .iconst 0, 1), (16, .istore 5, 2), (18, .iload 5, 2), (20, .iload 4, 2), (22, .if_icmp .ge 209, 3), (25, .aload_n 0, 1), (26, .invokevirtual 421, 3), (29, .aload_n 0, 1), (30, .getfield 57, 3), (33, .aload_n 0, 1), (34, .getfield 12, 3), (37, .aload_n 0, 1), (38, .getfield 12, 3), (41, .getfield 110, 3), (44, .aload_n 0, 1), (45, .getfield 12, 3), (48, .getfield 113, 3), (51, .invokevirtual 116, 3), (54, .aload_n 0, 1), (55, .getfield 50, 3), (58, .aload_n 1, 1), (59, .iload_n 2, 1), (60, .invokevirtual 424, 3), (63, .ifCond .ne 6, 3), (66, .goto 159, 3), (69, .aload_n 0, 1), (70, .getfield 50, 3), (73, .aload_n 1, 1), (74, .iload_n 2, 1), (75, .invokevirtual 427, 3), (78, .ifCond .ne 5, 3), (81, .iconst 0, 1), (82, .ireturn, 1), (83, .iload_n 3, 1), (84, .tableswitch 94 7 10 #[48, 71, 94, 32], 32), (116, .aload_n 0, 1), (117, .aload_n 0, 1), (118, .getfield 50, 3), (121, .getfield 430, 3), (124, .invokevirtual 281, 3), (127, .istore 6, 2), (129, .goto 55, 3), (132, .aload_n 0, 1), (133, .aload_n 0, 1), (134, .getfield 50, 3), (137, .getfield 430, 3), (140, .aload_n 0, 1), (141, .getfield 50, 3), (144, .getfield 433, 3), (147, .invokevirtual 286, 3), (150, .istore 6, 2), (152, .goto 32, 3), (155, .aload_n 0, 1), (156, .aload_n 0, 1), (157, .getfield 50, 3), (160, .getfield 430, 3), (163, .aload_n 0, 1), (164, .getfield 50, 3), (167, .getfield 433, 3), (170, .invokevirtual 290, 3), (173, .istore 6, 2), (175, .goto 9, 3), (178, .aload_n 0, 1), (179, .invokevirtual 293, 3), (182, .istore 6, 2), (184, .iload 6, 2), (186, .ifCond .ge 5, 3), (189, .iconst 0, 1), (190, .ireturn, 1), (191, .aload_n 0, 1), (192, .getfield 50, 3), (195, .iconst 1, 1), (196, .aload_n 0, 1), (197, .getfield 50, 3), (200, .iconst 1, 1), (201, .invokevirtual 272, 3), (204, .iconst 1, 1), (205, .iadd, 1), (206, .invokevirtual 262, 3), (209, .iload_n 3, 1), (210, .bipush 8, 2), (212, .if_icmp .ne 13, 3), (215, .aload_n 0, 1), (216, .getfield 50, 3), (219, .iconst 2, 1), (220, .iload 6, 2), (222, .invokevirtual 262, 3), (225, .iinc 5 1, 3), (228, .goto (-210), 3), (231, .iconst 1, 1), (232, .ireturn, 1)]
theorem dX11_runClause : ∀ q ∈ tbX11_runClause, decode prog_1_method_52_code q.1 = .ok q.2 := by decide +kernel
set_option maxRecDepth 20000 in
theorem cX11_runClause (l : Launch) (w : WX) (hL : Lay w) (t : Nat) (ht : Wat w t 11 0) (p1 : Nat) (hp1 : Wat w p1 9 0) (p2 : Int32) (M : Mem) : Ct l w yX11_runClause prog_1_method_52_code 7 (Option.some FieldType.boolean) 6 156 evIM emM [.ref t, .ref p1, .int p2] M (FX11_runClause t p1 p2 M) := by
  refine ct_of (by decide) (Nat.le_of_ble_eq_true rfl) (fun x hl hx hb hz => ?_)
  subst hl
  have hd : ∀ i, DAt (xc x).code (tbX11_runClause[i]?) := fun i => by rw [hb]; exact dat_of dX11_runClause i
  show C x w (Qn x w evIM emM) 7 0 [(0, .ref t), (1, .ref p1), (2, .int p2)] [] M (FX11_runClause t p1 p2 M)
  unfold FX11_runClause
  refine r_aload_n (pc' := 1) hx (hd 0) rfl 1 rfl rfl ?_
  refine r_iload_n (pc' := 2) hx (hd 1) rfl 2 rfl rfl ?_
  refine r_iconst (pc' := 3) (v := 0) hx (hd 2) (by decide) rfl ?_
  refine r_callV (pc' := 6) (As := [.int p2, .int 0]) (rest := []) hx (hd 3) md_X9_at mi_X9_at ms_X9_at ml_11_418 (cX9_at (xl x) w hL p1 hp1 p2 0 M) hp1 rfl (by decide) ⟨Nat.le_of_ble_eq_true rfl, Nat.le_of_ble_eq_true rfl⟩ rfl rfl (Nat.le_of_ble_eq_true rfl) (fun r1 => .int r1 :: []) (fun _ => M) (fun _ => ⟨rfl, rfl⟩) rfl (fun r1 _ => ?_)
  refine r_istore_n (pc' := 7) (L' := [(3, .int r1), (0, .ref t), (1, .ref p1), (2, .int p2)]) hx (hd 4) rfl (by decide) rfl rfl ?_
  refine r_aload_n (pc' := 8) hx (hd 5) rfl 2 rfl rfl ?_
  refine r_iload_n (pc' := 9) hx (hd 6) rfl 3 rfl rfl ?_
  refine r_iconst (pc' := 10) (v := 1) hx (hd 7) (by decide) rfl ?_
  refine r_callV (pc' := 13) (As := [.int p2, .int 1]) (rest := []) hx (hd 8) md_X9_at mi_X9_at ms_X9_at ml_11_418 (cX9_at (xl x) w hL p1 hp1 p2 1 M) hp1 rfl (by decide) ⟨Nat.le_of_ble_eq_true rfl, Nat.le_of_ble_eq_true rfl⟩ rfl rfl (Nat.le_of_ble_eq_true rfl) (fun r2 => .int r2 :: []) (fun _ => M) (fun _ => ⟨rfl, rfl⟩) rfl (fun r2 _ => ?_)
  refine r_istore (pc' := 15) (L' := [(4, .int r2), (3, .int r1), (0, .ref t), (1, .ref p1), (2, .int p2)]) hx (hd 9) (by decide) rfl rfl ?_
  refine r_iconst (pc' := 16) (v := 0) hx (hd 10) (by decide) rfl ?_
  refine r_istore (pc' := 18) (L' := [(5, .int 0), (4, .int r2), (3, .int r1), (0, .ref t), (1, .ref p1), (2, .int p2)]) hx (hd 11) (by decide) rfl rfl ?_
  refine r_sub [3, 4, 5, 2, 1, 0] rfl ?_
  refine r_wl2 (fun v3 M4 => [(0, .ref t), (1, .ref p1), (2, .int p2), (3, .int r1), (4, .int r2), (5, .int v3)]) (fun v3 M4 => []) (fun v3 M4 => M4) (fun v3 M4 rec5 ih6 => ?_) fuel 0 M
  refine r_iload (pc' := 20) hx (hd 12) 5 rfl rfl ?_
  refine r_iload (pc' := 22) hx (hd 13) 4 rfl rfl ?_
  refine r_icmp_ge (tgt := 231) (pc' := 25) hx (hd 14) (by decide) (fun _ => ?_) rfl (fun _ => ?_)
  · skip
    refine r_iconst (pc' := 232) (v := 1) hx (hd 99) (by decide) rfl ?_
    exact r_zret hx (hd 100) rfl rfl rfl hz
  · skip
    refine r_aload_n (pc' := 26) hx (hd 15) rfl 0 rfl rfl ?_
    refine r_callVU (pc' := 29) (As := []) (rest := []) hx (hd 16) md_X11_tellTable mi_X11_tellTable ms_X11_tellTable ml_11_421 (cX11_tellTable (xl x) w hL t ht M4) ht rfl (by decide) ⟨Nat.le_of_ble_eq_true rfl, Nat.le_of_ble_eq_true rfl⟩ rfl rfl (Nat.le_of_ble_eq_true rfl) rfl (fun M7 => ?_)
    refine r_aload_n (pc' := 30) hx (hd 17) rfl 0 rfl rfl ?_
    refine r_get (pc' := 33) (v := .ref (t + 179)) hx (hd 18) fl_11_57 ht rfl (by decide) rfl ?_
    have h8 := hL.1 _ _ _ ht 8 179 10 0 rfl
    refine r_aload_n (pc' := 34) hx (hd 19) rfl 0 rfl rfl ?_
    refine r_get (pc' := 37) (v := .ref (t + 1)) hx (hd 20) fl_11_12 ht rfl (by decide) rfl ?_
    have h9 := hL.1 _ _ _ ht 0 1 6 0 rfl
    refine r_aload_n (pc' := 38) hx (hd 21) rfl 0 rfl rfl ?_
    refine r_get (pc' := 41) (v := .ref (t + 1)) hx (hd 22) fl_11_12 ht rfl (by decide) rfl ?_
    have h10 := hL.1 _ _ _ ht 0 1 6 0 rfl
    refine r_get (pc' := 44) (v := .int (mI M7 (t + 1) 8)) hx (hd 23) fl_11_110 h10 rfl (by decide) rfl ?_
    refine r_aload_n (pc' := 45) hx (hd 24) rfl 0 rfl rfl ?_
    refine r_get (pc' := 48) (v := .ref (t + 1)) hx (hd 25) fl_11_12 ht rfl (by decide) rfl ?_
    have h11 := hL.1 _ _ _ ht 0 1 6 0 rfl
    refine r_get (pc' := 51) (v := .ref ((t + 1) + 1)) hx (hd 26) fl_11_113 h11 rfl (by decide) rfl ?_
    have h12 := hL.1 _ _ _ h11 0 1 8 0 rfl
    refine r_callVU (pc' := 54) (As := [.ref (t + 1), .int (mI M7 (t + 1) 8), .ref ((t + 1) + 1)]) (rest := []) hx (hd 27) md_X10_fit mi_X10_fit ms_X10_fit ml_11_116 (cX10_fit (xl x) w hL (t + 179) h8 (t + 1) h9 (mI M7 (t + 1) 8) ((t + 1) + 1) h12 M7) h8 rfl (by decide) ⟨Nat.le_of_ble_eq_true rfl, Nat.le_of_ble_eq_true rfl⟩ rfl rfl (Nat.le_of_ble_eq_true rfl) rfl (fun M13 => ?_)
    refine r_aload_n (pc' := 55) hx (hd 28) rfl 0 rfl rfl ?_
    refine r_get (pc' := 58) (v := .ref (t + 176)) hx (hd 29) fl_11_50 ht rfl (by decide) rfl ?_
    have h14 := hL.1 _ _ _ ht 7 176 7 0 rfl
    refine r_aload_n (pc' := 59) hx (hd 30) rfl 1 rfl rfl ?_
    refine r_iload_n (pc' := 60) hx (hd 31) rfl 2 rfl rfl ?_
    refine r_callVI (pc' := 63) (As := [.ref p1, .int p2]) (rest := []) hx (hd 32) md_X7_isSo mi_X7_isSo ms_X7_isSo ml_11_424 (cX7_isSo (xl x) w hL (t + 176) h14 p1 hp1 p2 M13) h14 rfl (by decide) ⟨Nat.le_of_ble_eq_true rfl, Nat.le_of_ble_eq_true rfl⟩ rfl rfl (Nat.le_of_ble_eq_true rfl) (fun r16 => .int r16 :: []) (fun _ => rfl) rfl (fun r16 M15 => ?_)
    refine r_jn1 225 (fun M17 => [(0, .ref t), (1, .ref p1), (2, .int p2), (3, .int r1), (4, .int r2), (5, .int v3)]) (fun M17 => []) (fun M17 => M17) (fun M17 => ?_) (fun j18 hj19 => ?_)
    · skip
      refine r_iinc (pc' := 228) (v := 1) hx (hd 97) 5 rfl (by decide) (by decide) (fun v20 => [(5, .int v20), (0, .ref t), (1, .ref p1), (2, .int p2), (3, .int r1), (4, .int r2)]) (fun _ => rfl) rfl (fun v20 => ?_)
      refine r_goto (tgt := 18) hx (hd 98) (by decide) ?_
      refine r_sub [1, 2, 3, 4, 5, 0] rfl ?_
      exact ih6 v20 M17
    refine r_if_ne (tgt := 69) (pc' := 66) hx (hd 33) (by decide) (fun _ => ?_) rfl (fun _ => ?_)
    · skip
      refine r_aload_n (pc' := 70) hx (hd 35) rfl 0 rfl rfl ?_
      refine r_get (pc' := 73) (v := .ref (t + 176)) hx (hd 36) fl_11_50 ht rfl (by decide) rfl ?_
      have h21 := hL.1 _ _ _ ht 7 176 7 0 rfl
      refine r_aload_n (pc' := 74) hx (hd 37) rfl 1 rfl rfl ?_
      refine r_iload_n (pc' := 75) hx (hd 38) rfl 2 rfl rfl ?_
      refine r_callVI (pc' := 78) (As := [.ref p1, .int p2]) (rest := []) hx (hd 39) md_X7_workBoth mi_X7_workBoth ms_X7_workBoth ml_11_427 (cX7_workBoth (xl x) w hL (t + 176) h21 p1 hp1 p2 M15) h21 rfl (by decide) ⟨Nat.le_of_ble_eq_true rfl, Nat.le_of_ble_eq_true rfl⟩ rfl rfl (Nat.le_of_ble_eq_true rfl) (fun r23 => .int r23 :: []) (fun _ => rfl) rfl (fun r23 M22 => ?_)
      refine r_if_ne (tgt := 83) (pc' := 81) hx (hd 40) (by decide) (fun _ => ?_) rfl (fun _ => ?_)
      · skip
        refine r_iload_n (pc' := 84) hx (hd 43) rfl 3 rfl rfl ?_
        refine r_jn2 184 (fun v24 M25 => [(0, .ref t), (1, .ref p1), (2, .int p2), (3, .int r1), (4, .int r2), (5, .int v3), (6, .int v24)]) (fun v24 M25 => []) (fun v24 M25 => M25) (fun v24 M25 => ?_) (fun j26 hj27 => ?_)
        · skip
          refine r_iload (pc' := 186) hx (hd 75) 6 rfl rfl ?_
          refine r_if_ge (tgt := 191) (pc' := 189) hx (hd 76) (by decide) (fun _ => ?_) rfl (fun _ => ?_)
          · skip
            refine r_aload_n (pc' := 192) hx (hd 79) rfl 0 rfl rfl ?_
            refine r_get (pc' := 195) (v := .ref (t + 176)) hx (hd 80) fl_11_50 ht rfl (by decide) rfl ?_
            have h28 := hL.1 _ _ _ ht 7 176 7 0 rfl
            refine r_iconst (pc' := 196) (v := 1) hx (hd 81) (by decide) rfl ?_
            refine r_aload_n (pc' := 197) hx (hd 82) rfl 0 rfl rfl ?_
            refine r_get (pc' := 200) (v := .ref (t + 176)) hx (hd 83) fl_11_50 ht rfl (by decide) rfl ?_
            have h29 := hL.1 _ _ _ ht 7 176 7 0 rfl
            refine r_iconst (pc' := 201) (v := 1) hx (hd 84) (by decide) rfl ?_
            refine r_callV (pc' := 204) (As := [.int 1]) (rest := [.int 1, .ref (t + 176)]) hx (hd 85) md_X7_told mi_X7_told ms_X7_told ml_11_272 (cX7_told (xl x) w hL (t + 176) h29 1 M25) h29 rfl (by decide) ⟨Nat.le_of_ble_eq_true rfl, Nat.le_of_ble_eq_true rfl⟩ rfl rfl (Nat.le_of_ble_eq_true rfl) (fun r30 => .int r30 :: [.int 1, .ref (t + 176)]) (fun _ => M25) (fun _ => ⟨rfl, rfl⟩) rfl (fun r30 _ => ?_)
            refine r_iconst (pc' := 205) (v := 1) hx (hd 86) (by decide) rfl ?_
            refine r_iadd (pc' := 206) hx (hd 87) rfl ?_
            refine r_callVU (pc' := 209) (As := [.int 1, .int (r30 + 1)]) (rest := []) hx (hd 88) md_X7_tell mi_X7_tell ms_X7_tell ml_11_262 (cX7_tell (xl x) w hL (t + 176) h28 1 (r30 + 1) M25) h28 rfl (by decide) ⟨Nat.le_of_ble_eq_true rfl, Nat.le_of_ble_eq_true rfl⟩ rfl rfl (Nat.le_of_ble_eq_true rfl) rfl (fun M31 => ?_)
            refine r_iload_n (pc' := 210) hx (hd 89) rfl 3 rfl rfl ?_
            refine r_bipush (pc' := 212) (v := 8) hx (hd 90) (by decide) rfl ?_
            refine r_icmp_ne (tgt := 225) (pc' := 215) hx (hd 91) (by decide) (fun _ => ?_) rfl (fun _ => ?_)
            · skip
              refine r_sub [0, 1, 2, 3, 4, 5] rfl ?_
              exact hj19 M31
            · skip
              refine r_aload_n (pc' := 216) hx (hd 92) rfl 0 rfl rfl ?_
              refine r_get (pc' := 219) (v := .ref (t + 176)) hx (hd 93) fl_11_50 ht rfl (by decide) rfl ?_
              have h32 := hL.1 _ _ _ ht 7 176 7 0 rfl
              refine r_iconst (pc' := 220) (v := 2) hx (hd 94) (by decide) rfl ?_
              refine r_iload (pc' := 222) hx (hd 95) 6 rfl rfl ?_
              refine r_callVU (pc' := 225) (As := [.int 2, .int v24]) (rest := []) hx (hd 96) md_X7_tell mi_X7_tell ms_X7_tell ml_11_262 (cX7_tell (xl x) w hL (t + 176) h32 2 v24 M31) h32 rfl (by decide) ⟨Nat.le_of_ble_eq_true rfl, Nat.le_of_ble_eq_true rfl⟩ rfl rfl (Nat.le_of_ble_eq_true rfl) rfl (fun M33 => ?_)
              refine r_sub [0, 1, 2, 3, 4, 5] rfl ?_
              exact hj19 M33
          · skip
            refine r_iconst (pc' := 190) (v := 0) hx (hd 77) (by decide) rfl ?_
            exact r_zret hx (hd 78) rfl rfl rfl hz
        refine r_table (td := 178) [132, 155, 178, 116] hx (hd 44) rfl rfl rfl (by decide) ?_ ?_
        · skip
          refine r_aload_n (pc' := 179) hx (hd 72) rfl 0 rfl rfl ?_
          refine r_callVI (pc' := 182) (As := []) (rest := []) hx (hd 73) md_X11_makeShow mi_X11_makeShow ms_X11_makeShow ml_11_293 (cX11_makeShow (xl x) w hL t ht M22) ht rfl (by decide) ⟨Nat.le_of_ble_eq_true rfl, Nat.le_of_ble_eq_true rfl⟩ rfl rfl (Nat.le_of_ble_eq_true rfl) (fun r35 => .int r35 :: []) (fun _ => rfl) rfl (fun r35 M34 => ?_)
          refine r_istore (pc' := 184) (L' := [(6, .int r35), (0, .ref t), (1, .ref p1), (2, .int p2), (3, .int r1), (4, .int r2), (5, .int v3)]) hx (hd 74) (by decide) rfl rfl ?_
          refine r_sub [1, 2, 3, 4, 5, 6, 0] rfl ?_
          exact hj27 r35 M34
        refine ⟨?_, ?_, ?_, ?_,  trivial⟩
        · skip
          refine r_aload_n (pc' := 133) hx (hd 52) rfl 0 rfl rfl ?_
          refine r_aload_n (pc' := 134) hx (hd 53) rfl 0 rfl rfl ?_
          refine r_get (pc' := 137) (v := .ref (t + 176)) hx (hd 54) fl_11_50 ht rfl (by decide) rfl ?_
          have h36 := hL.1 _ _ _ ht 7 176 7 0 rfl
          refine r_get (pc' := 140) (v := .int (mI M22 (t + 176) 2)) hx (hd 55) fl_11_430 h36 rfl (by decide) rfl ?_
          refine r_aload_n (pc' := 141) hx (hd 56) rfl 0 rfl rfl ?_
          refine r_get (pc' := 144) (v := .ref (t + 176)) hx (hd 57) fl_11_50 ht rfl (by decide) rfl ?_
          have h37 := hL.1 _ _ _ ht 7 176 7 0 rfl
          refine r_get (pc' := 147) (v := .int (mI M22 (t + 176) 3)) hx (hd 58) fl_11_433 h37 rfl (by decide) rfl ?_
          refine r_callVI (pc' := 150) (As := [.int (mI M22 (t + 176) 2), .int (mI M22 (t + 176) 3)]) (rest := []) hx (hd 59) md_X11_makeLay mi_X11_makeLay ms_X11_makeLay ml_11_286 (cX11_makeLay (xl x) w hL t ht (mI M22 (t + 176) 2) (mI M22 (t + 176) 3) M22) ht rfl (by decide) ⟨Nat.le_of_ble_eq_true rfl, Nat.le_of_ble_eq_true rfl⟩ rfl rfl (Nat.le_of_ble_eq_true rfl) (fun r39 => .int r39 :: []) (fun _ => rfl) rfl (fun r39 M38 => ?_)
          refine r_istore (pc' := 152) (L' := [(6, .int r39), (0, .ref t), (1, .ref p1), (2, .int p2), (3, .int r1), (4, .int r2), (5, .int v3)]) hx (hd 60) (by decide) rfl rfl ?_
          refine r_goto (tgt := 184) hx (hd 61) (by decide) ?_
          refine r_sub [1, 2, 3, 4, 5, 6, 0] rfl ?_
          exact hj27 r39 M38
        · skip
          refine r_aload_n (pc' := 156) hx (hd 62) rfl 0 rfl rfl ?_
          refine r_aload_n (pc' := 157) hx (hd 63) rfl 0 rfl rfl ?_
          refine r_get (pc' := 160) (v := .ref (t + 176)) hx (hd 64) fl_11_50 ht rfl (by decide) rfl ?_
          have h40 := hL.1 _ _ _ ht 7 176 7 0 rfl
          refine r_get (pc' := 163) (v := .int (mI M22 (t + 176) 2)) hx (hd 65) fl_11_430 h40 rfl (by decide) rfl ?_
          refine r_aload_n (pc' := 164) hx (hd 66) rfl 0 rfl rfl ?_
          refine r_get (pc' := 167) (v := .ref (t + 176)) hx (hd 67) fl_11_50 ht rfl (by decide) rfl ?_
          have h41 := hL.1 _ _ _ ht 7 176 7 0 rfl
          refine r_get (pc' := 170) (v := .int (mI M22 (t + 176) 3)) hx (hd 68) fl_11_433 h41 rfl (by decide) rfl ?_
          refine r_callVI (pc' := 173) (As := [.int (mI M22 (t + 176) 2), .int (mI M22 (t + 176) 3)]) (rest := []) hx (hd 69) md_X11_makePlay mi_X11_makePlay ms_X11_makePlay ml_11_290 (cX11_makePlay (xl x) w hL t ht (mI M22 (t + 176) 2) (mI M22 (t + 176) 3) M22) ht rfl (by decide) ⟨Nat.le_of_ble_eq_true rfl, Nat.le_of_ble_eq_true rfl⟩ rfl rfl (Nat.le_of_ble_eq_true rfl) (fun r43 => .int r43 :: []) (fun _ => rfl) rfl (fun r43 M42 => ?_)
          refine r_istore (pc' := 175) (L' := [(6, .int r43), (0, .ref t), (1, .ref p1), (2, .int p2), (3, .int r1), (4, .int r2), (5, .int v3)]) hx (hd 70) (by decide) rfl rfl ?_
          refine r_goto (tgt := 184) hx (hd 71) (by decide) ?_
          refine r_sub [1, 2, 3, 4, 5, 6, 0] rfl ?_
          exact hj27 r43 M42
        · skip
          refine r_aload_n (pc' := 179) hx (hd 72) rfl 0 rfl rfl ?_
          refine r_callVI (pc' := 182) (As := []) (rest := []) hx (hd 73) md_X11_makeShow mi_X11_makeShow ms_X11_makeShow ml_11_293 (cX11_makeShow (xl x) w hL t ht M22) ht rfl (by decide) ⟨Nat.le_of_ble_eq_true rfl, Nat.le_of_ble_eq_true rfl⟩ rfl rfl (Nat.le_of_ble_eq_true rfl) (fun r45 => .int r45 :: []) (fun _ => rfl) rfl (fun r45 M44 => ?_)
          refine r_istore (pc' := 184) (L' := [(6, .int r45), (0, .ref t), (1, .ref p1), (2, .int p2), (3, .int r1), (4, .int r2), (5, .int v3)]) hx (hd 74) (by decide) rfl rfl ?_
          refine r_sub [1, 2, 3, 4, 5, 6, 0] rfl ?_
          exact hj27 r45 M44
        · skip
          refine r_aload_n (pc' := 117) hx (hd 45) rfl 0 rfl rfl ?_
          refine r_aload_n (pc' := 118) hx (hd 46) rfl 0 rfl rfl ?_
          refine r_get (pc' := 121) (v := .ref (t + 176)) hx (hd 47) fl_11_50 ht rfl (by decide) rfl ?_
          have h46 := hL.1 _ _ _ ht 7 176 7 0 rfl
          refine r_get (pc' := 124) (v := .int (mI M22 (t + 176) 2)) hx (hd 48) fl_11_430 h46 rfl (by decide) rfl ?_
          refine r_callVI (pc' := 127) (As := [.int (mI M22 (t + 176) 2)]) (rest := []) hx (hd 49) md_X11_makeDeal mi_X11_makeDeal ms_X11_makeDeal ml_11_281 (cX11_makeDeal (xl x) w hL t ht (mI M22 (t + 176) 2) M22) ht rfl (by decide) ⟨Nat.le_of_ble_eq_true rfl, Nat.le_of_ble_eq_true rfl⟩ rfl rfl (Nat.le_of_ble_eq_true rfl) (fun r48 => .int r48 :: []) (fun _ => rfl) rfl (fun r48 M47 => ?_)
          refine r_istore (pc' := 129) (L' := [(6, .int r48), (0, .ref t), (1, .ref p1), (2, .int p2), (3, .int r1), (4, .int r2), (5, .int v3)]) hx (hd 50) (by decide) rfl rfl ?_
          refine r_goto (tgt := 184) hx (hd 51) (by decide) ?_
          refine r_sub [1, 2, 3, 4, 5, 6, 0] rfl ?_
          exact hj27 r48 M47
      · skip
        refine r_iconst (pc' := 82) (v := 0) hx (hd 41) (by decide) rfl ?_
        exact r_zret hx (hd 42) rfl rfl rfl hz
    · skip
      refine r_goto (tgt := 225) hx (hd 34) (by decide) ?_
      exact hj19 M15
abbrev yX11_orders : MethodName := ({ cls := "CribbageRoom", name := "orders", desc := "()I" } : Jvm.MethodName)
def tbX11_orders : List (Nat × Instr × Nat) := [(0, .aload_n 0, 1), (1, .iconst (-1), 1), (2, .putfield 102, 3), (5, .aload_n 0, 1), (6, .getfield 43, 3), (9, .iconst 0, 1), (10, .invokevirtual 238, 3), (13, .ifCond .ne 10, 3), (16, .aload_n 0, 1), (17, .bipush (-6), 2), (19, .invokevirtual 211, 3), (22, .ireturn, 1), (23, .aload_n 0, 1), (24, .getfield 33, 3), (27, .aload_n 0, 1), (28, .getfield 12, 3), (31, .getfield 113, 3), (34, .invokevirtual 255, 3), (37, .aload_n 0, 1), (38, .getfield 27, 3), (41, .aload_n 0, 1), (42, .getfield 23, 3), (45, .invokevirtual 259, 3), (48, .aload_n 0, 1), (49, .getfield 50, 3), (52, .iconst 1, 1), (53, .iconst 0, 1), (54, .invokevirtual 262, 3), (57, .aload_n 0, 1), (58, .getfield 50, 3), (61, .iconst 2, 1), (62, .iconst (-1), 1), (63, .invokevirtual 262, 3), (66, .iconst 0, 1), (67, .istore_n 1, 1), (68, .iload_n 1, 1), (69, .aload_n 0, 1), (70, .getfield 43, 3), (73, .getfield 248, 3), (76, .getfield 265, 3), (79, .if_icmp .ge 61, 3), (82, .aload_n 0, 1), (83, .aload_n 0, 1), (84, .getfield 43, 3), (87, .getfield 248, 3), (90, .iload_n 1, 1), (91, .invokevirtual 268, 3), (94, .ifCond .ne 40, 3), (97, .aload_n 0, 1), (98, .iload_n 1, 1), (99, .putfield 102, 3), (102, .aload_n 0, 1), (103, .getfield 12, 3), (106, .getfield 113, 3), (109, .aload_n 0, 1), (110, .getfield 33, 3), (113, .invokevirtual 255, 3), (116, .aload_n 0, 1), (117, .getfield 23, 3), (120, .aload_n 0, 1), (121, .getfield 27, 3), (124, .invokevirtual 259, 3), (127, .aload_n 0, 1), (128, .bipush (-3), 2), (130, .invokevirtual 211, 3), (133, .ireturn, 1), (134, .iinc 1 1, 3), (137, .goto (-69), 3), (140, .aload_n 0, 1), (141, .aload_n 0, 1), (142, .getfield 50, 3), (145, .iconst 1, 1), (146, .invokevirtual 272, 3), (149, .invokevirtual 221, 3), (152, .ireturn, 1)]
theorem dX11_orders : ∀ q ∈ tbX11_orders, decode prog_1_method_12_code q.1 = .ok q.2 := by decide +kernel
set_option maxRecDepth 20000 in
theorem cX11_orders (l : Launch) (w : WX) (hL : Lay w) (t : Nat) (ht : Wat w t 11 0) (M : Mem) : Ct l w yX11_orders prog_1_method_12_code 2 (Option.some FieldType.int) 1133 28088 evIM emM [.ref t] M (FX11_orders t M) := by
  refine ct_of (by decide) (Nat.le_of_ble_eq_true rfl) (fun x hl hx hb hz => ?_)
  subst hl
  have hd : ∀ i, DAt (xc x).code (tbX11_orders[i]?) := fun i => by rw [hb]; exact dat_of dX11_orders i
  show C x w (Qn x w evIM emM) 2 0 [(0, .ref t)] [] M (FX11_orders t M)
  unfold FX11_orders
  refine r_aload_n (pc' := 1) hx (hd 0) rfl 0 rfl rfl ?_
  refine r_iconst (pc' := 2) (v := (-1)) hx (hd 1) (by decide) rfl ?_
  refine r_putI (pc' := 5) hx (hd 2) fp_11_102 ht rfl (by decide) rfl (fun M1 => ?_)
  refine r_aload_n (pc' := 6) hx (hd 3) rfl 0 rfl rfl ?_
  refine r_get (pc' := 9) (v := .ref (t + 171)) hx (hd 4) fl_11_43 ht rfl (by decide) rfl ?_
  have h2 := hL.1 _ _ _ ht 6 171 5 0 rfl
  refine r_iconst (pc' := 10) (v := 0) hx (hd 5) (by decide) rfl ?_
  refine r_callVI (pc' := 13) (As := [.int 0]) (rest := []) hx (hd 6) md_X5_readText mi_X5_readText ms_X5_readText ml_11_238 (cX5_readText (xl x) w hL (t + 171) h2 0 M1) h2 rfl (by decide) ⟨Nat.le_of_ble_eq_true rfl, Nat.le_of_ble_eq_true rfl⟩ rfl rfl (Nat.le_of_ble_eq_true rfl) (fun r4 => .int r4 :: []) (fun _ => rfl) rfl (fun r4 M3 => ?_)
  refine r_if_ne (tgt := 23) (pc' := 16) hx (hd 7) (by decide) (fun _ => ?_) rfl (fun _ => ?_)
  · skip
    refine r_aload_n (pc' := 24) hx (hd 12) rfl 0 rfl rfl ?_
    refine r_get (pc' := 27) (v := .ref (t + 163)) hx (hd 13) fl_11_33 ht rfl (by decide) rfl ?_
    have h5 := hL.1 _ _ _ ht 4 163 8 0 rfl
    refine r_aload_n (pc' := 28) hx (hd 14) rfl 0 rfl rfl ?_
    refine r_get (pc' := 31) (v := .ref (t + 1)) hx (hd 15) fl_11_12 ht rfl (by decide) rfl ?_
    have h6 := hL.1 _ _ _ ht 0 1 6 0 rfl
    refine r_get (pc' := 34) (v := .ref ((t + 1) + 1)) hx (hd 16) fl_11_113 h6 rfl (by decide) rfl ?_
    have h7 := hL.1 _ _ _ h6 0 1 8 0 rfl
    refine r_callVU (pc' := 37) (As := [.ref ((t + 1) + 1)]) (rest := []) hx (hd 17) md_X8_copyFrom mi_X8_copyFrom ms_X8_copyFrom ml_11_255 (cX8_copyFrom (xl x) w hL (t + 163) h5 ((t + 1) + 1) h7 M3) h5 rfl (by decide) ⟨Nat.le_of_ble_eq_true rfl, Nat.le_of_ble_eq_true rfl⟩ rfl rfl (Nat.le_of_ble_eq_true rfl) rfl (fun M8 => ?_)
    refine r_aload_n (pc' := 38) hx (hd 18) rfl 0 rfl rfl ?_
    refine r_get (pc' := 41) (v := .ref (t + 96)) hx (hd 19) fl_11_27 ht rfl (by decide) rfl ?_
    have h9 := hL.1 _ _ _ ht 3 96 4 0 rfl
    refine r_aload_n (pc' := 42) hx (hd 20) rfl 0 rfl rfl ?_
    refine r_get (pc' := 45) (v := .ref (t + 29)) hx (hd 21) fl_11_23 ht rfl (by decide) rfl ?_
    have h10 := hL.1 _ _ _ ht 2 29 4 0 rfl
    refine r_callVU (pc' := 48) (As := [.ref (t + 29)]) (rest := []) hx (hd 22) md_X4_copyFrom mi_X4_copyFrom ms_X4_copyFrom ml_11_259 (cX4_copyFrom (xl x) w hL (t + 96) h9 (t + 29) h10 M8) h9 rfl (by decide) ⟨Nat.le_of_ble_eq_true rfl, Nat.le_of_ble_eq_true rfl⟩ rfl rfl (Nat.le_of_ble_eq_true rfl) rfl (fun M11 => ?_)
    refine r_aload_n (pc' := 49) hx (hd 23) rfl 0 rfl rfl ?_
    refine r_get (pc' := 52) (v := .ref (t + 176)) hx (hd 24) fl_11_50 ht rfl (by decide) rfl ?_
    have h12 := hL.1 _ _ _ ht 7 176 7 0 rfl
    refine r_iconst (pc' := 53) (v := 1) hx (hd 25) (by decide) rfl ?_
    refine r_iconst (pc' := 54) (v := 0) hx (hd 26) (by decide) rfl ?_
    refine r_callVU (pc' := 57) (As := [.int 1, .int 0]) (rest := []) hx (hd 27) md_X7_tell mi_X7_tell ms_X7_tell ml_11_262 (cX7_tell (xl x) w hL (t + 176) h12 1 0 M11) h12 rfl (by decide) ⟨Nat.le_of_ble_eq_true rfl, Nat.le_of_ble_eq_true rfl⟩ rfl rfl (Nat.le_of_ble_eq_true rfl) rfl (fun M13 => ?_)
    refine r_aload_n (pc' := 58) hx (hd 28) rfl 0 rfl rfl ?_
    refine r_get (pc' := 61) (v := .ref (t + 176)) hx (hd 29) fl_11_50 ht rfl (by decide) rfl ?_
    have h14 := hL.1 _ _ _ ht 7 176 7 0 rfl
    refine r_iconst (pc' := 62) (v := 2) hx (hd 30) (by decide) rfl ?_
    refine r_iconst (pc' := 63) (v := (-1)) hx (hd 31) (by decide) rfl ?_
    refine r_callVU (pc' := 66) (As := [.int 2, .int (-1)]) (rest := []) hx (hd 32) md_X7_tell mi_X7_tell ms_X7_tell ml_11_262 (cX7_tell (xl x) w hL (t + 176) h14 2 (-1) M13) h14 rfl (by decide) ⟨Nat.le_of_ble_eq_true rfl, Nat.le_of_ble_eq_true rfl⟩ rfl rfl (Nat.le_of_ble_eq_true rfl) rfl (fun M15 => ?_)
    refine r_iconst (pc' := 67) (v := 0) hx (hd 33) (by decide) rfl ?_
    refine r_istore_n (pc' := 68) (L' := [(1, .int 0), (0, .ref t)]) hx (hd 34) rfl (by decide) rfl rfl ?_
    refine r_sub [1, 0] rfl ?_
    refine r_wl2 (fun v16 M17 => [(0, .ref t), (1, .int v16)]) (fun v16 M17 => []) (fun v16 M17 => M17) (fun v16 M17 rec18 ih19 => ?_) fuel 0 M15
    refine r_iload_n (pc' := 69) hx (hd 35) rfl 1 rfl rfl ?_
    refine r_aload_n (pc' := 70) hx (hd 36) rfl 0 rfl rfl ?_
    refine r_get (pc' := 73) (v := .ref (t + 171)) hx (hd 37) fl_11_43 ht rfl (by decide) rfl ?_
    have h20 := hL.1 _ _ _ ht 6 171 5 0 rfl
    refine r_get (pc' := 76) (v := .ref ((t + 171) + 2)) hx (hd 38) fl_11_248 h20 rfl (by decide) rfl ?_
    have h21 := hL.1 _ _ _ h20 1 2 9 0 rfl
    refine r_get (pc' := 79) (v := .int (mI M17 ((t + 171) + 2) 3)) hx (hd 39) fl_11_265 h21 rfl (by decide) rfl ?_
    refine r_icmp_ge (tgt := 140) (pc' := 82) hx (hd 40) (by decide) (fun _ => ?_) rfl (fun _ => ?_)
    · skip
      refine r_aload_n (pc' := 141) hx (hd 68) rfl 0 rfl rfl ?_
      refine r_aload_n (pc' := 142) hx (hd 69) rfl 0 rfl rfl ?_
      refine r_get (pc' := 145) (v := .ref (t + 176)) hx (hd 70) fl_11_50 ht rfl (by decide) rfl ?_
      have h22 := hL.1 _ _ _ ht 7 176 7 0 rfl
      refine r_iconst (pc' := 146) (v := 1) hx (hd 71) (by decide) rfl ?_
      refine r_callV (pc' := 149) (As := [.int 1]) (rest := [.ref t]) hx (hd 72) md_X7_told mi_X7_told ms_X7_told ml_11_272 (cX7_told (xl x) w hL (t + 176) h22 1 M17) h22 rfl (by decide) ⟨Nat.le_of_ble_eq_true rfl, Nat.le_of_ble_eq_true rfl⟩ rfl rfl (Nat.le_of_ble_eq_true rfl) (fun r23 => .int r23 :: [.ref t]) (fun _ => M17) (fun _ => ⟨rfl, rfl⟩) rfl (fun r23 _ => ?_)
      refine r_callVI (pc' := 152) (As := [.int r23]) (rest := []) hx (hd 73) md_X11_grant mi_X11_grant ms_X11_grant ml_11_221 (cX11_grant (xl x) w hL t ht r23 M17) ht rfl (by decide) ⟨Nat.le_of_ble_eq_true rfl, Nat.le_of_ble_eq_true rfl⟩ rfl rfl (Nat.le_of_ble_eq_true rfl) (fun r25 => .int r25 :: []) (fun _ => rfl) rfl (fun r25 M24 => ?_)
      exact r_iret hx (hd 74) rfl rfl hz
    · skip
      refine r_aload_n (pc' := 83) hx (hd 41) rfl 0 rfl rfl ?_
      refine r_aload_n (pc' := 84) hx (hd 42) rfl 0 rfl rfl ?_
      refine r_get (pc' := 87) (v := .ref (t + 171)) hx (hd 43) fl_11_43 ht rfl (by decide) rfl ?_
      have h26 := hL.1 _ _ _ ht 6 171 5 0 rfl
      refine r_get (pc' := 90) (v := .ref ((t + 171) + 2)) hx (hd 44) fl_11_248 h26 rfl (by decide) rfl ?_
      have h27 := hL.1 _ _ _ h26 1 2 9 0 rfl
      refine r_iload_n (pc' := 91) hx (hd 45) rfl 1 rfl rfl ?_
      refine r_callVI (pc' := 94) (As := [.ref ((t + 171) + 2), .int v16]) (rest := []) hx (hd 46) md_X11_runClause mi_X11_runClause ms_X11_runClause ml_11_268 (cX11_runClause (xl x) w hL t ht ((t + 171) + 2) h27 v16 M17) ht rfl (by decide) ⟨Nat.le_of_ble_eq_true rfl, Nat.le_of_ble_eq_true rfl⟩ rfl rfl (Nat.le_of_ble_eq_true rfl) (fun r29 => .int r29 :: []) (fun _ => rfl) rfl (fun r29 M28 => ?_)
      refine r_if_ne (tgt := 134) (pc' := 97) hx (hd 47) (by decide) (fun _ => ?_) rfl (fun _ => ?_)
      · skip
        refine r_iinc (pc' := 137) (v := 1) hx (hd 66) 1 rfl (by decide) (by decide) (fun v30 => [(1, .int v30), (0, .ref t)]) (fun _ => rfl) rfl (fun v30 => ?_)
        refine r_goto (tgt := 68) hx (hd 67) (by decide) ?_
        refine r_sub [1, 0] rfl ?_
        exact ih19 v30 M28
      · skip
        refine r_aload_n (pc' := 98) hx (hd 48) rfl 0 rfl rfl ?_
        refine r_iload_n (pc' := 99) hx (hd 49) rfl 1 rfl rfl ?_
        refine r_putI (pc' := 102) hx (hd 50) fp_11_102 ht rfl (by decide) rfl (fun M31 => ?_)
        refine r_aload_n (pc' := 103) hx (hd 51) rfl 0 rfl rfl ?_
        refine r_get (pc' := 106) (v := .ref (t + 1)) hx (hd 52) fl_11_12 ht rfl (by decide) rfl ?_
        have h32 := hL.1 _ _ _ ht 0 1 6 0 rfl
        refine r_get (pc' := 109) (v := .ref ((t + 1) + 1)) hx (hd 53) fl_11_113 h32 rfl (by decide) rfl ?_
        have h33 := hL.1 _ _ _ h32 0 1 8 0 rfl
        refine r_aload_n (pc' := 110) hx (hd 54) rfl 0 rfl rfl ?_
        refine r_get (pc' := 113) (v := .ref (t + 163)) hx (hd 55) fl_11_33 ht rfl (by decide) rfl ?_
        have h34 := hL.1 _ _ _ ht 4 163 8 0 rfl
        refine r_callVU (pc' := 116) (As := [.ref (t + 163)]) (rest := []) hx (hd 56) md_X8_copyFrom mi_X8_copyFrom ms_X8_copyFrom ml_11_255 (cX8_copyFrom (xl x) w hL ((t + 1) + 1) h33 (t + 163) h34 M31) h33 rfl (by decide) ⟨Nat.le_of_ble_eq_true rfl, Nat.le_of_ble_eq_true rfl⟩ rfl rfl (Nat.le_of_ble_eq_true rfl) rfl (fun M35 => ?_)
        refine r_aload_n (pc' := 117) hx (hd 57) rfl 0 rfl rfl ?_
        refine r_get (pc' := 120) (v := .ref (t + 29)) hx (hd 58) fl_11_23 ht rfl (by decide) rfl ?_
        have h36 := hL.1 _ _ _ ht 2 29 4 0 rfl
        refine r_aload_n (pc' := 121) hx (hd 59) rfl 0 rfl rfl ?_
        refine r_get (pc' := 124) (v := .ref (t + 96)) hx (hd 60) fl_11_27 ht rfl (by decide) rfl ?_
        have h37 := hL.1 _ _ _ ht 3 96 4 0 rfl
        refine r_callVU (pc' := 127) (As := [.ref (t + 96)]) (rest := []) hx (hd 61) md_X4_copyFrom mi_X4_copyFrom ms_X4_copyFrom ml_11_259 (cX4_copyFrom (xl x) w hL (t + 29) h36 (t + 96) h37 M35) h36 rfl (by decide) ⟨Nat.le_of_ble_eq_true rfl, Nat.le_of_ble_eq_true rfl⟩ rfl rfl (Nat.le_of_ble_eq_true rfl) rfl (fun M38 => ?_)
        refine r_aload_n (pc' := 128) hx (hd 62) rfl 0 rfl rfl ?_
        refine r_bipush (pc' := 130) (v := (-3)) hx (hd 63) (by decide) rfl ?_
        refine r_callVI (pc' := 133) (As := [.int (-3)]) (rest := []) hx (hd 64) md_X11_refuse mi_X11_refuse ms_X11_refuse ml_11_211 (cX11_refuse (xl x) w hL t ht (-3) M38) ht rfl (by decide) ⟨Nat.le_of_ble_eq_true rfl, Nat.le_of_ble_eq_true rfl⟩ rfl rfl (Nat.le_of_ble_eq_true rfl) (fun r40 => .int r40 :: []) (fun _ => rfl) rfl (fun r40 M39 => ?_)
        exact r_iret hx (hd 65) rfl rfl hz
  · skip
    refine r_aload_n (pc' := 17) hx (hd 8) rfl 0 rfl rfl ?_
    refine r_bipush (pc' := 19) (v := (-6)) hx (hd 9) (by decide) rfl ?_
    refine r_callVI (pc' := 22) (As := [.int (-6)]) (rest := []) hx (hd 10) md_X11_refuse mi_X11_refuse ms_X11_refuse ml_11_211 (cX11_refuse (xl x) w hL t ht (-6) M3) ht rfl (by decide) ⟨Nat.le_of_ble_eq_true rfl, Nat.le_of_ble_eq_true rfl⟩ rfl rfl (Nat.le_of_ble_eq_true rfl) (fun r42 => .int r42 :: []) (fun _ => rfl) rfl (fun r42 M41 => ?_)
    exact r_iret hx (hd 11) rfl rfl hz
abbrev yX11_fault : MethodName := ({ cls := "CribbageRoom", name := "fault", desc := "()I" } : Jvm.MethodName)
def tbX11_fault : List (Nat × Instr × Nat) := [(0, .aload_n 0, 1), (1, .getfield 43, 3), (4, .getfield 275, 3), (7, .ireturn, 1)]
theorem dX11_fault : ∀ q ∈ tbX11_fault, decode prog_1_method_13_code q.1 = .ok q.2 := by decide +kernel
set_option maxRecDepth 20000 in
theorem cX11_fault (l : Launch) (w : WX) (hL : Lay w) (t : Nat) (ht : Wat w t 11 0) (M : Mem) : Ct l w yX11_fault prog_1_method_13_code 1 (Option.some FieldType.int) 0 0 evI (emC M) [.ref t] M (FX11_fault t M) := by
  refine ct_of (by decide) (Nat.le_of_ble_eq_true rfl) (fun x hl hx hb hz => ?_)
  subst hl
  have hd : ∀ i, DAt (xc x).code (tbX11_fault[i]?) := fun i => by rw [hb]; exact dat_of dX11_fault i
  show C x w (Qn x w evI (emC M)) 1 0 [(0, .ref t)] [] M (FX11_fault t M)
  unfold FX11_fault
  refine r_aload_n (pc' := 1) hx (hd 0) rfl 0 rfl rfl ?_
  refine r_get (pc' := 4) (v := .ref (t + 171)) hx (hd 1) fl_11_43 ht rfl (by decide) rfl ?_
  have h1 := hL.1 _ _ _ ht 6 171 5 0 rfl
  refine r_get (pc' := 7) (v := .int (mI M (t + 171) 3)) hx (hd 2) fl_11_275 h1 rfl (by decide) rfl ?_
  exact r_iret hx (hd 3) rfl rfl hz
abbrev yX11_stopped : MethodName := ({ cls := "CribbageRoom", name := "stopped", desc := "()I" } : Jvm.MethodName)
def tbX11_stopped : List (Nat × Instr × Nat) := [(0, .aload_n 0, 1), (1, .getfield 102, 3), (4, .ireturn, 1)]
theorem dX11_stopped : ∀ q ∈ tbX11_stopped, decode prog_1_method_14_code q.1 = .ok q.2 := by decide +kernel
set_option maxRecDepth 20000 in
theorem cX11_stopped (l : Launch) (w : WX) (hL : Lay w) (t : Nat) (ht : Wat w t 11 0) (M : Mem) : Ct l w yX11_stopped prog_1_method_14_code 1 (Option.some FieldType.int) 0 0 evI (emC M) [.ref t] M (FX11_stopped t M) := by
  refine ct_of (by decide) (Nat.le_of_ble_eq_true rfl) (fun x hl hx hb hz => ?_)
  subst hl
  have hd : ∀ i, DAt (xc x).code (tbX11_stopped[i]?) := fun i => by rw [hb]; exact dat_of dX11_stopped i
  show C x w (Qn x w evI (emC M)) 1 0 [(0, .ref t)] [] M (FX11_stopped t M)
  unfold FX11_stopped
  refine r_aload_n (pc' := 1) hx (hd 0) rfl 0 rfl rfl ?_
  refine r_get (pc' := 4) (v := .int (mI M t 18)) hx (hd 1) fl_11_102 ht rfl (by decide) rfl ?_
  exact r_iret hx (hd 2) rfl rfl hz
abbrev yX11_isLaw : MethodName := ({ cls := "CribbageRoom", name := "isLaw", desc := "(I)Z" } : Jvm.MethodName)
def tbX11_isLaw : List (Nat × Instr × Nat) := [(0, .iload_n 1, 1), (1, .iconst (-1), 1), (2, .if_icmp .lt 18, 3), (5, .iload_n 1, 1), (6, .aload_n 0, 1), (7, .getfield 12, 3), (10, .getfield 190, 3), (13, .if_icmp .ge 7, 3), (16, .iconst 1, 1), (17, .goto 4, 3), (20, .iconst 0, 1), (21, .ireturn, 1)]
theorem dX11_isLaw : ∀ q ∈ tbX11_isLaw, decode prog_1_method_42_code q.1 = .ok q.2 := by decide +kernel
set_option maxRecDepth 20000 in
theorem cX11_isLaw (l : Launch) (w : WX) (hL : Lay w) (t : Nat) (ht : Wat w t 11 0) (p1 : Int32) (M : Mem) : Ct l w yX11_isLaw prog_1_method_42_code 2 (Option.some FieldType.boolean) 0 0 evI (emC M) [.ref t, .int p1] M (FX11_isLaw t p1 M) := by
  refine ct_of (by decide) (Nat.le_of_ble_eq_true rfl) (fun x hl hx hb hz => ?_)
  subst hl
  have hd : ∀ i, DAt (xc x).code (tbX11_isLaw[i]?) := fun i => by rw [hb]; exact dat_of dX11_isLaw i
  show C x w (Qn x w evI (emC M)) 2 0 [(0, .ref t), (1, .int p1)] [] M (FX11_isLaw t p1 M)
  unfold FX11_isLaw
  refine r_iload_n (pc' := 1) hx (hd 0) rfl 1 rfl rfl ?_
  refine r_iconst (pc' := 2) (v := (-1)) hx (hd 1) (by decide) rfl ?_
  refine r_jn1 21 (fun v1 => []) (fun v1 => [.int v1]) (fun v1 => M) (fun v1 => ?_) (fun j2 hj3 => ?_)
  · skip
    refine r_gd (fun h4 => ?_)
    exact r_zret hx (hd 11) h4 rfl rfl hz
  refine r_jn0 20 ([]) ([]) (M) (?_) (fun j5 hj6 => ?_)
  · skip
    refine r_iconst (pc' := 21) (v := 0) hx (hd 10) (by decide) rfl ?_
    exact hj3 0
  refine r_icmp_lt (tgt := 20) (pc' := 5) hx (hd 2) (by decide) (fun _ => ?_) rfl (fun _ => ?_)
  · skip
    refine r_sub [] rfl ?_
    exact hj6
  · skip
    refine r_iload_n (pc' := 6) hx (hd 3) rfl 1 rfl rfl ?_
    refine r_aload_n (pc' := 7) hx (hd 4) rfl 0 rfl rfl ?_
    refine r_get (pc' := 10) (v := .ref (t + 1)) hx (hd 5) fl_11_12 ht rfl (by decide) rfl ?_
    have h7 := hL.1 _ _ _ ht 0 1 6 0 rfl
    refine r_get (pc' := 13) (v := .int (mI M (t + 1) 7)) hx (hd 6) fl_11_190 h7 rfl (by decide) rfl ?_
    refine r_icmp_ge (tgt := 20) (pc' := 16) hx (hd 7) (by decide) (fun _ => ?_) rfl (fun _ => ?_)
    · skip
      refine r_sub [] rfl ?_
      exact hj6
    · skip
      refine r_iconst (pc' := 17) (v := 1) hx (hd 8) (by decide) rfl ?_
      refine r_goto (tgt := 21) hx (hd 9) (by decide) ?_
      refine r_sub [] rfl ?_
      exact hj3 1
abbrev yX11_force : MethodName := ({ cls := "CribbageRoom", name := "force", desc := "(I)I" } : Jvm.MethodName)
def tbX11_force : List (Nat × Instr × Nat) := [(0, .aload_n 0, 1), (1, .iload_n 1, 1), (2, .invokevirtual 278, 3), (5, .ifCond .ne 10, 3), (8, .aload_n 0, 1), (9, .bipush (-2), 2), (11, .invokevirtual 211, 3), (14, .ireturn, 1), (15, .aload_n 0, 1), (16, .getfield 12, 3), (19, .getfield 110, 3), (22, .istore_n 2, 1), (23, .aload_n 0, 1), (24, .getfield 12, 3), (27, .iload_n 1, 1), (28, .putfield 110, 3), (31, .aload_n 0, 1), (32, .iload_n 2, 1), (33, .invokevirtual 221, 3), (36, .ireturn, 1)]
theorem dX11_force : ∀ q ∈ tbX11_force, decode prog_1_method_15_code q.1 = .ok q.2 := by decide +kernel
set_option maxRecDepth 20000 in
theorem cX11_force (l : Launch) (w : WX) (hL : Lay w) (t : Nat) (ht : Wat w t 11 0) (p1 : Int32) (M : Mem) : Ct l w yX11_force prog_1_method_15_code 3 (Option.some FieldType.int) 1 22 evIM emM [.ref t, .int p1] M (FX11_force t p1 M) := by
  refine ct_of (by decide) (Nat.le_of_ble_eq_true rfl) (fun x hl hx hb hz => ?_)
  subst hl
  have hd : ∀ i, DAt (xc x).code (tbX11_force[i]?) := fun i => by rw [hb]; exact dat_of dX11_force i
  show C x w (Qn x w evIM emM) 3 0 [(0, .ref t), (1, .int p1)] [] M (FX11_force t p1 M)
  unfold FX11_force
  refine r_aload_n (pc' := 1) hx (hd 0) rfl 0 rfl rfl ?_
  refine r_iload_n (pc' := 2) hx (hd 1) rfl 1 rfl rfl ?_
  refine r_callV (pc' := 5) (As := [.int p1]) (rest := []) hx (hd 2) md_X11_isLaw mi_X11_isLaw ms_X11_isLaw ml_11_278 (cX11_isLaw (xl x) w hL t ht p1 M) ht rfl (by decide) ⟨Nat.le_of_ble_eq_true rfl, Nat.le_of_ble_eq_true rfl⟩ rfl rfl (Nat.le_of_ble_eq_true rfl) (fun r1 => .int r1 :: []) (fun _ => M) (fun _ => ⟨rfl, rfl⟩) rfl (fun r1 _ => ?_)
  refine r_if_ne (tgt := 15) (pc' := 8) hx (hd 3) (by decide) (fun _ => ?_) rfl (fun _ => ?_)
  · skip
    refine r_aload_n (pc' := 16) hx (hd 8) rfl 0 rfl rfl ?_
    refine r_get (pc' := 19) (v := .ref (t + 1)) hx (hd 9) fl_11_12 ht rfl (by decide) rfl ?_
    have h2 := hL.1 _ _ _ ht 0 1 6 0 rfl
    refine r_get (pc' := 22) (v := .int (mI M (t + 1) 8)) hx (hd 10) fl_11_110 h2 rfl (by decide) rfl ?_
    refine r_nmI (fun v3 => ?_)
    refine r_istore_n (pc' := 23) (L' := [(2, .int v3), (0, .ref t), (1, .int p1)]) hx (hd 11) rfl (by decide) rfl rfl ?_
    refine r_aload_n (pc' := 24) hx (hd 12) rfl 1 rfl rfl ?_
    refine r_get (pc' := 27) (v := .ref (t + 1)) hx (hd 13) fl_11_12 ht rfl (by decide) rfl ?_
    have h4 := hL.1 _ _ _ ht 0 1 6 0 rfl
    refine r_iload_n (pc' := 28) hx (hd 14) rfl 2 rfl rfl ?_
    refine r_putI (pc' := 31) hx (hd 15) fp_11_110 h4 rfl (by decide) rfl (fun M5 => ?_)
    refine r_aload_n (pc' := 32) hx (hd 16) rfl 1 rfl rfl ?_
    refine r_iload_n (pc' := 33) hx (hd 17) rfl 0 rfl rfl ?_
    refine r_callVI (pc' := 36) (As := [.int v3]) (rest := []) hx (hd 18) md_X11_grant mi_X11_grant ms_X11_grant ml_11_221 (cX11_grant (xl x) w hL t ht v3 M5) ht rfl (by decide) ⟨Nat.le_of_ble_eq_true rfl, Nat.le_of_ble_eq_true rfl⟩ rfl rfl (Nat.le_of_ble_eq_true rfl) (fun r7 => .int r7 :: []) (fun _ => rfl) rfl (fun r7 M6 => ?_)
    exact r_iret hx (hd 19) rfl rfl hz
  · skip
    refine r_aload_n (pc' := 9) hx (hd 4) rfl 0 rfl rfl ?_
    refine r_bipush (pc' := 11) (v := (-2)) hx (hd 5) (by decide) rfl ?_
    refine r_callVI (pc' := 14) (As := [.int (-2)]) (rest := []) hx (hd 6) md_X11_refuse mi_X11_refuse ms_X11_refuse ml_11_211 (cX11_refuse (xl x) w hL t ht (-2) M) ht rfl (by decide) ⟨Nat.le_of_ble_eq_true rfl, Nat.le_of_ble_eq_true rfl⟩ rfl rfl (Nat.le_of_ble_eq_true rfl) (fun r9 => .int r9 :: []) (fun _ => rfl) rfl (fun r9 M8 => ?_)
    exact r_iret hx (hd 7) rfl rfl hz
abbrev yX11_tell : MethodName := ({ cls := "CribbageRoom", name := "tell", desc := "(I)I" } : Jvm.MethodName)
def tbX11_tell : List (Nat × Instr × Nat) := [(0, .iload_n 1, 1), (1, .ifCond .ge 11, 3), (4, .aload_n 0, 1), (5, .iload_n 1, 1), (6, .invokevirtual 211, 3), (9, .goto 8, 3), (12, .aload_n 0, 1), (13, .iload_n 1, 1), (14, .invokevirtual 221, 3), (17, .ireturn, 1)]
theorem dX11_tell : ∀ q ∈ tbX11_tell, decode prog_1_method_41_code q.1 = .ok q.2 := by decide +kernel
set_option maxRecDepth 20000 in
theorem cX11_tell (l : Launch) (w : WX) (hL : Lay w) (t : Nat) (ht : Wat w t 11 0) (p1 : Int32) (M : Mem) : Ct l w yX11_tell prog_1_method_41_code 2 (Option.some FieldType.int) 1 22 evIM emM [.ref t, .int p1] M (FX11_tell t p1 M) := by
  refine ct_of (by decide) (Nat.le_of_ble_eq_true rfl) (fun x hl hx hb hz => ?_)
  subst hl
  have hd : ∀ i, DAt (xc x).code (tbX11_tell[i]?) := fun i => by rw [hb]; exact dat_of dX11_tell i
  show C x w (Qn x w evIM emM) 2 0 [(0, .ref t), (1, .int p1)] [] M (FX11_tell t p1 M)
  unfold FX11_tell
  refine r_iload_n (pc' := 1) hx (hd 0) rfl 1 rfl rfl ?_
  refine r_jn2 17 (fun v1 M2 => []) (fun v1 M2 => [.int v1]) (fun v1 M2 => M2) (fun v1 M2 => ?_) (fun j3 hj4 => ?_)
  · skip
    exact r_iret hx (hd 9) rfl rfl hz
  refine r_if_ge (tgt := 12) (pc' := 4) hx (hd 1) (by decide) (fun _ => ?_) rfl (fun _ => ?_)
  · skip
    refine r_aload_n (pc' := 13) hx (hd 6) rfl 0 rfl rfl ?_
    refine r_iload_n (pc' := 14) hx (hd 7) rfl 1 rfl rfl ?_
    refine r_callVI (pc' := 17) (As := [.int p1]) (rest := []) hx (hd 8) md_X11_grant mi_X11_grant ms_X11_grant ml_11_221 (cX11_grant (xl x) w hL t ht p1 M) ht rfl (by decide) ⟨Nat.le_of_ble_eq_true rfl, Nat.le_of_ble_eq_true rfl⟩ rfl rfl (Nat.le_of_ble_eq_true rfl) (fun r6 => .int r6 :: []) (fun _ => rfl) rfl (fun r6 M5 => ?_)
    refine r_sub [] rfl ?_
    exact hj4 r6 M5
  · skip
    refine r_aload_n (pc' := 5) hx (hd 2) rfl 0 rfl rfl ?_
    refine r_iload_n (pc' := 6) hx (hd 3) rfl 1 rfl rfl ?_
    refine r_callVI (pc' := 9) (As := [.int p1]) (rest := []) hx (hd 4) md_X11_refuse mi_X11_refuse ms_X11_refuse ml_11_211 (cX11_refuse (xl x) w hL t ht p1 M) ht rfl (by decide) ⟨Nat.le_of_ble_eq_true rfl, Nat.le_of_ble_eq_true rfl⟩ rfl rfl (Nat.le_of_ble_eq_true rfl) (fun r8 => .int r8 :: []) (fun _ => rfl) rfl (fun r8 M7 => ?_)
    refine r_goto (tgt := 17) hx (hd 5) (by decide) ?_
    refine r_sub [] rfl ?_
    exact hj4 r8 M7
abbrev yX11_deal : MethodName := ({ cls := "CribbageRoom", name := "deal", desc := "(I)I" } : Jvm.MethodName)
def tbX11_deal : List (Nat × Instr × Nat) := [(0, .aload_n 0, 1), (1, .aload_n 0, 1), (2, .iload_n 1, 1), (3, .invokevirtual 281, 3), (6, .invokevirtual 284, 3), (9, .ireturn, 1)]
theorem dX11_deal : ∀ q ∈ tbX11_deal, decode prog_1_method_16_code q.1 = .ok q.2 := by decide +kernel
set_option maxRecDepth 20000 in
theorem cX11_deal (l : Launch) (w : WX) (hL : Lay w) (t : Nat) (ht : Wat w t 11 0) (p1 : Int32) (M : Mem) : Ct l w yX11_deal prog_1_method_16_code 2 (Option.some FieldType.int) 5 117 evIM emM [.ref t, .int p1] M (FX11_deal t p1 M) := by
  refine ct_of (by decide) (Nat.le_of_ble_eq_true rfl) (fun x hl hx hb hz => ?_)
  subst hl
  have hd : ∀ i, DAt (xc x).code (tbX11_deal[i]?) := fun i => by rw [hb]; exact dat_of dX11_deal i
  show C x w (Qn x w evIM emM) 2 0 [(0, .ref t), (1, .int p1)] [] M (FX11_deal t p1 M)
  unfold FX11_deal
  refine r_aload_n (pc' := 1) hx (hd 0) rfl 0 rfl rfl ?_
  refine r_aload_n (pc' := 2) hx (hd 1) rfl 0 rfl rfl ?_
  refine r_iload_n (pc' := 3) hx (hd 2) rfl 1 rfl rfl ?_
  refine r_callVI (pc' := 6) (As := [.int p1]) (rest := [.ref t]) hx (hd 3) md_X11_makeDeal mi_X11_makeDeal ms_X11_makeDeal ml_11_281 (cX11_makeDeal (xl x) w hL t ht p1 M) ht rfl (by decide) ⟨Nat.le_of_ble_eq_true rfl, Nat.le_of_ble_eq_true rfl⟩ rfl rfl (Nat.le_of_ble_eq_true rfl) (fun r2 => .int r2 :: [.ref t]) (fun _ => rfl) rfl (fun r2 M1 => ?_)
  refine r_callVI (pc' := 9) (As := [.int r2]) (rest := []) hx (hd 4) md_X11_tell mi_X11_tell ms_X11_tell ml_11_284 (cX11_tell (xl x) w hL t ht r2 M1) ht rfl (by decide) ⟨Nat.le_of_ble_eq_true rfl, Nat.le_of_ble_eq_true rfl⟩ rfl rfl (Nat.le_of_ble_eq_true rfl) (fun r4 => .int r4 :: []) (fun _ => rfl) rfl (fun r4 M3 => ?_)
  exact r_iret hx (hd 5) rfl rfl hz
abbrev yX11_lay : MethodName := ({ cls := "CribbageRoom", name := "lay", desc := "(II)I" } : Jvm.MethodName)
def tbX11_lay : List (Nat × Instr × Nat) := [(0, .aload_n 0, 1), (1, .getfield 57, 3), (4, .aload_n 0, 1), (5, .getfield 12, 3), (8, .aload_n 0, 1), (9, .getfield 12, 3), (12, .getfield 110, 3), (15, .aload_n 0, 1), (16, .getfield 12, 3), (19, .getfield 113, 3), (22, .invokevirtual 116, 3), (25, .aload_n 0, 1), (26, .aload_n 0, 1), (27, .iload_n 1, 1), (28, .iload_n 2, 1), (29, .invokevirtual 286, 3), (32, .invokevirtual 284, 3), (35, .ireturn, 1)]
theorem dX11_lay : ∀ q ∈ tbX11_lay, decode prog_1_method_17_code q.1 = .ok q.2 := by decide +kernel
set_option maxRecDepth 20000 in
theorem cX11_lay (l : Launch) (w : WX) (hL : Lay w) (t : Nat) (ht : Wat w t 11 0) (p1 : Int32) (p2 : Int32) (M : Mem) : Ct l w yX11_lay prog_1_method_17_code 3 (Option.some FieldType.int) 6 156 evIM emM [.ref t, .int p1, .int p2] M (FX11_lay t p1 p2 M) := by
  refine ct_of (by decide) (Nat.le_of_ble_eq_true rfl) (fun x hl hx hb hz => ?_)
  subst hl
  have hd : ∀ i, DAt (xc x).code (tbX11_lay[i]?) := fun i => by rw [hb]; exact dat_of dX11_lay i
  show C x w (Qn x w evIM emM) 3 0 [(0, .ref t), (1, .int p1), (2, .int p2)] [] M (FX11_lay t p1 p2 M)
  unfold FX11_lay
  refine r_aload_n (pc' := 1) hx (hd 0) rfl 0 rfl rfl ?_
  refine r_get (pc' := 4) (v := .ref (t + 179)) hx (hd 1) fl_11_57 ht rfl (by decide) rfl ?_
  have h1 := hL.1 _ _ _ ht 8 179 10 0 rfl
  refine r_aload_n (pc' := 5) hx (hd 2) rfl 0 rfl rfl ?_
  refine r_get (pc' := 8) (v := .ref (t + 1)) hx (hd 3) fl_11_12 ht rfl (by decide) rfl ?_
  have h2 := hL.1 _ _ _ ht 0 1 6 0 rfl
  refine r_aload_n (pc' := 9) hx (hd 4) rfl 0 rfl rfl ?_
  refine r_get (pc' := 12) (v := .ref (t + 1)) hx (hd 5) fl_11_12 ht rfl (by decide) rfl ?_
  have h3 := hL.1 _ _ _ ht 0 1 6 0 rfl
  refine r_get (pc' := 15) (v := .int (mI M (t + 1) 8)) hx (hd 6) fl_11_110 h3 rfl (by decide) rfl ?_
  refine r_aload_n (pc' := 16) hx (hd 7) rfl 0 rfl rfl ?_
  refine r_get (pc' := 19) (v := .ref (t + 1)) hx (hd 8) fl_11_12 ht rfl (by decide) rfl ?_
  have h4 := hL.1 _ _ _ ht 0 1 6 0 rfl
  refine r_get (pc' := 22) (v := .ref ((t + 1) + 1)) hx (hd 9) fl_11_113 h4 rfl (by decide) rfl ?_
  have h5 := hL.1 _ _ _ h4 0 1 8 0 rfl
  refine r_callVU (pc' := 25) (As := [.ref (t + 1), .int (mI M (t + 1) 8), .ref ((t + 1) + 1)]) (rest := []) hx (hd 10) md_X10_fit mi_X10_fit ms_X10_fit ml_11_116 (cX10_fit (xl x) w hL (t + 179) h1 (t + 1) h2 (mI M (t + 1) 8) ((t + 1) + 1) h5 M) h1 rfl (by decide) ⟨Nat.le_of_ble_eq_true rfl, Nat.le_of_ble_eq_true rfl⟩ rfl rfl (Nat.le_of_ble_eq_true rfl) rfl (fun M6 => ?_)
  refine r_aload_n (pc' := 26) hx (hd 11) rfl 0 rfl rfl ?_
  refine r_aload_n (pc' := 27) hx (hd 12) rfl 0 rfl rfl ?_
  refine r_iload_n (pc' := 28) hx (hd 13) rfl 1 rfl rfl ?_
  refine r_iload_n (pc' := 29) hx (hd 14) rfl 2 rfl rfl ?_
  refine r_callVI (pc' := 32) (As := [.int p1, .int p2]) (rest := [.ref t]) hx (hd 15) md_X11_makeLay mi_X11_makeLay ms_X11_makeLay ml_11_286 (cX11_makeLay (xl x) w hL t ht p1 p2 M6) ht rfl (by decide) ⟨Nat.le_of_ble_eq_true rfl, Nat.le_of_ble_eq_true rfl⟩ rfl rfl (Nat.le_of_ble_eq_true rfl) (fun r8 => .int r8 :: [.ref t]) (fun _ => rfl) rfl (fun r8 M7 => ?_)
  refine r_callVI (pc' := 35) (As := [.int r8]) (rest := []) hx (hd 16) md_X11_tell mi_X11_tell ms_X11_tell ml_11_284 (cX11_tell (xl x) w hL t ht r8 M7) ht rfl (by decide) ⟨Nat.le_of_ble_eq_true rfl, Nat.le_of_ble_eq_true rfl⟩ rfl rfl (Nat.le_of_ble_eq_true rfl) (fun r10 => .int r10 :: []) (fun _ => rfl) rfl (fun r10 M9 => ?_)
  exact r_iret hx (hd 17) rfl rfl hz
abbrev yX11_play : MethodName := ({ cls := "CribbageRoom", name := "play", desc := "(II)I" } : Jvm.MethodName)
def tbX11_play : List (Nat × Instr × Nat) := [(0, .aload_n 0, 1), (1, .getfield 57, 3), (4, .aload_n 0, 1), (5, .getfield 12, 3), (8, .aload_n 0, 1), (9, .getfield 12, 3), (12, .getfield 110, 3), (15, .aload_n 0, 1), (16, .getfield 12, 3), (19, .getfield 113, 3), (22, .invokevirtual 116, 3), (25, .aload_n 0, 1), (26, .aload_n 0, 1), (27, .iload_n 1, 1), (28, .iload_n 2, 1), (29, .invokevirtual 290, 3), (32, .invokevirtual 284, 3), (35, .ireturn, 1)]
theorem dX11_play : ∀ q ∈ tbX11_play, decode prog_1_method_18_code q.1 = .ok q.2 := by decide +kernel
set_option maxRecDepth 20000 in
theorem cX11_play (l : Launch) (w : WX) (hL : Lay w) (t : Nat) (ht : Wat w t 11 0) (p1 : Int32) (p2 : Int32) (M : Mem) : Ct l w yX11_play prog_1_method_18_code 3 (Option.some FieldType.int) 6 156 evIM emM [.ref t, .int p1, .int p2] M (FX11_play t p1 p2 M) := by
  refine ct_of (by decide) (Nat.le_of_ble_eq_true rfl) (fun x hl hx hb hz => ?_)
  subst hl
  have hd : ∀ i, DAt (xc x).code (tbX11_play[i]?) := fun i => by rw [hb]; exact dat_of dX11_play i
  show C x w (Qn x w evIM emM) 3 0 [(0, .ref t), (1, .int p1), (2, .int p2)] [] M (FX11_play t p1 p2 M)
  unfold FX11_play
  refine r_aload_n (pc' := 1) hx (hd 0) rfl 0 rfl rfl ?_
  refine r_get (pc' := 4) (v := .ref (t + 179)) hx (hd 1) fl_11_57 ht rfl (by decide) rfl ?_
  have h1 := hL.1 _ _ _ ht 8 179 10 0 rfl
  refine r_aload_n (pc' := 5) hx (hd 2) rfl 0 rfl rfl ?_
  refine r_get (pc' := 8) (v := .ref (t + 1)) hx (hd 3) fl_11_12 ht rfl (by decide) rfl ?_
  have h2 := hL.1 _ _ _ ht 0 1 6 0 rfl
  refine r_aload_n (pc' := 9) hx (hd 4) rfl 0 rfl rfl ?_
  refine r_get (pc' := 12) (v := .ref (t + 1)) hx (hd 5) fl_11_12 ht rfl (by decide) rfl ?_
  have h3 := hL.1 _ _ _ ht 0 1 6 0 rfl
  refine r_get (pc' := 15) (v := .int (mI M (t + 1) 8)) hx (hd 6) fl_11_110 h3 rfl (by decide) rfl ?_
  refine r_aload_n (pc' := 16) hx (hd 7) rfl 0 rfl rfl ?_
  refine r_get (pc' := 19) (v := .ref (t + 1)) hx (hd 8) fl_11_12 ht rfl (by decide) rfl ?_
  have h4 := hL.1 _ _ _ ht 0 1 6 0 rfl
  refine r_get (pc' := 22) (v := .ref ((t + 1) + 1)) hx (hd 9) fl_11_113 h4 rfl (by decide) rfl ?_
  have h5 := hL.1 _ _ _ h4 0 1 8 0 rfl
  refine r_callVU (pc' := 25) (As := [.ref (t + 1), .int (mI M (t + 1) 8), .ref ((t + 1) + 1)]) (rest := []) hx (hd 10) md_X10_fit mi_X10_fit ms_X10_fit ml_11_116 (cX10_fit (xl x) w hL (t + 179) h1 (t + 1) h2 (mI M (t + 1) 8) ((t + 1) + 1) h5 M) h1 rfl (by decide) ⟨Nat.le_of_ble_eq_true rfl, Nat.le_of_ble_eq_true rfl⟩ rfl rfl (Nat.le_of_ble_eq_true rfl) rfl (fun M6 => ?_)
  refine r_aload_n (pc' := 26) hx (hd 11) rfl 0 rfl rfl ?_
  refine r_aload_n (pc' := 27) hx (hd 12) rfl 0 rfl rfl ?_
  refine r_iload_n (pc' := 28) hx (hd 13) rfl 1 rfl rfl ?_
  refine r_iload_n (pc' := 29) hx (hd 14) rfl 2 rfl rfl ?_
  refine r_callVI (pc' := 32) (As := [.int p1, .int p2]) (rest := [.ref t]) hx (hd 15) md_X11_makePlay mi_X11_makePlay ms_X11_makePlay ml_11_290 (cX11_makePlay (xl x) w hL t ht p1 p2 M6) ht rfl (by decide) ⟨Nat.le_of_ble_eq_true rfl, Nat.le_of_ble_eq_true rfl⟩ rfl rfl (Nat.le_of_ble_eq_true rfl) (fun r8 => .int r8 :: [.ref t]) (fun _ => rfl) rfl (fun r8 M7 => ?_)
  refine r_callVI (pc' := 35) (As := [.int r8]) (rest := []) hx (hd 16) md_X11_tell mi_X11_tell ms_X11_tell ml_11_284 (cX11_tell (xl x) w hL t ht r8 M7) ht rfl (by decide) ⟨Nat.le_of_ble_eq_true rfl, Nat.le_of_ble_eq_true rfl⟩ rfl rfl (Nat.le_of_ble_eq_true rfl) (fun r10 => .int r10 :: []) (fun _ => rfl) rfl (fun r10 M9 => ?_)
  exact r_iret hx (hd 17) rfl rfl hz
abbrev yX11_show : MethodName := ({ cls := "CribbageRoom", name := "show", desc := "()I" } : Jvm.MethodName)
def tbX11_show : List (Nat × Instr × Nat) := [(0, .aload_n 0, 1), (1, .getfield 57, 3), (4, .aload_n 0, 1), (5, .getfield 12, 3), (8, .aload_n 0, 1), (9, .getfield 12, 3), (12, .getfield 110, 3), (15, .aload_n 0, 1), (16, .getfield 12, 3), (19, .getfield 113, 3), (22, .invokevirtual 116, 3), (25, .aload_n 0, 1), (26, .aload_n 0, 1), (27, .invokevirtual 293, 3), (30, .invokevirtual 284, 3), (33, .ireturn, 1)]
theorem dX11_show : ∀ q ∈ tbX11_show, decode prog_1_method_19_code q.1 = .ok q.2 := by decide +kernel
set_option maxRecDepth 20000 in
theorem cX11_show (l : Launch) (w : WX) (hL : Lay w) (t : Nat) (ht : Wat w t 11 0) (M : Mem) : Ct l w yX11_show prog_1_method_19_code 1 (Option.some FieldType.int) 6 156 evIM emM [.ref t] M (FX11_show t M) := by
  refine ct_of (by decide) (Nat.le_of_ble_eq_true rfl) (fun x hl hx hb hz => ?_)
  subst hl
  have hd : ∀ i, DAt (xc x).code (tbX11_show[i]?) := fun i => by rw [hb]; exact dat_of dX11_show i
  show C x w (Qn x w evIM emM) 1 0 [(0, .ref t)] [] M (FX11_show t M)
  unfold FX11_show
  refine r_aload_n (pc' := 1) hx (hd 0) rfl 0 rfl rfl ?_
  refine r_get (pc' := 4) (v := .ref (t + 179)) hx (hd 1) fl_11_57 ht rfl (by decide) rfl ?_
  have h1 := hL.1 _ _ _ ht 8 179 10 0 rfl
  refine r_aload_n (pc' := 5) hx (hd 2) rfl 0 rfl rfl ?_
  refine r_get (pc' := 8) (v := .ref (t + 1)) hx (hd 3) fl_11_12 ht rfl (by decide) rfl ?_
  have h2 := hL.1 _ _ _ ht 0 1 6 0 rfl
  refine r_aload_n (pc' := 9) hx (hd 4) rfl 0 rfl rfl ?_
  refine r_get (pc' := 12) (v := .ref (t + 1)) hx (hd 5) fl_11_12 ht rfl (by decide) rfl ?_
  have h3 := hL.1 _ _ _ ht 0 1 6 0 rfl
  refine r_get (pc' := 15) (v := .int (mI M (t + 1) 8)) hx (hd 6) fl_11_110 h3 rfl (by decide) rfl ?_
  refine r_aload_n (pc' := 16) hx (hd 7) rfl 0 rfl rfl ?_
  refine r_get (pc' := 19) (v := .ref (t + 1)) hx (hd 8) fl_11_12 ht rfl (by decide) rfl ?_
  have h4 := hL.1 _ _ _ ht 0 1 6 0 rfl
  refine r_get (pc' := 22) (v := .ref ((t + 1) + 1)) hx (hd 9) fl_11_113 h4 rfl (by decide) rfl ?_
  have h5 := hL.1 _ _ _ h4 0 1 8 0 rfl
  refine r_callVU (pc' := 25) (As := [.ref (t + 1), .int (mI M (t + 1) 8), .ref ((t + 1) + 1)]) (rest := []) hx (hd 10) md_X10_fit mi_X10_fit ms_X10_fit ml_11_116 (cX10_fit (xl x) w hL (t + 179) h1 (t + 1) h2 (mI M (t + 1) 8) ((t + 1) + 1) h5 M) h1 rfl (by decide) ⟨Nat.le_of_ble_eq_true rfl, Nat.le_of_ble_eq_true rfl⟩ rfl rfl (Nat.le_of_ble_eq_true rfl) rfl (fun M6 => ?_)
  refine r_aload_n (pc' := 26) hx (hd 11) rfl 0 rfl rfl ?_
  refine r_aload_n (pc' := 27) hx (hd 12) rfl 0 rfl rfl ?_
  refine r_callVI (pc' := 30) (As := []) (rest := [.ref t]) hx (hd 13) md_X11_makeShow mi_X11_makeShow ms_X11_makeShow ml_11_293 (cX11_makeShow (xl x) w hL t ht M6) ht rfl (by decide) ⟨Nat.le_of_ble_eq_true rfl, Nat.le_of_ble_eq_true rfl⟩ rfl rfl (Nat.le_of_ble_eq_true rfl) (fun r8 => .int r8 :: [.ref t]) (fun _ => rfl) rfl (fun r8 M7 => ?_)
  refine r_callVI (pc' := 33) (As := [.int r8]) (rest := []) hx (hd 14) md_X11_tell mi_X11_tell ms_X11_tell ml_11_284 (cX11_tell (xl x) w hL t ht r8 M7) ht rfl (by decide) ⟨Nat.le_of_ble_eq_true rfl, Nat.le_of_ble_eq_true rfl⟩ rfl rfl (Nat.le_of_ble_eq_true rfl) (fun r10 => .int r10 :: []) (fun _ => rfl) rfl (fun r10 M9 => ?_)
  exact r_iret hx (hd 15) rfl rfl hz
abbrev yX4_pop : MethodName := ({ cls := "CribbageRoom$History", name := "pop", desc := "(LCribbageRoom$Table;)I" } : Jvm.MethodName)
def tbX4_pop : List (Nat × Instr × Nat) := [(0, .aload_n 0, 1), (1, .getfield 22, 3), (4, .ifCond .ne 5, 3), (7, .iconst (-1), 1), (8, .ireturn, 1), (9, .aload_n 0, 1), (10, .dup, 1), (11, .getfield 22, 3), (14, .iconst 1, 1), (15, .isub, 1), (16, .putfield 22, 3), (19, .aload_n 0, 1), (20, .getfield 26, 3), (23, .aload_n 0, 1), (24, .getfield 22, 3), (27, .iadd, 1), (28, .bipush 16, 2), (30, .irem, 1), (31, .istore_n 2, 1), (32, .aload_n 1, 1), (33, .aload_n 0, 1), (34, .getfield 13, 3), (37, .iload_n 2, 1), (38, .aaload, 1), (39, .invokevirtual 29, 3), (42, .aload_n 0, 1), (43, .getfield 17, 3), (46, .iload_n 2, 1), (47, .iaload, 1), (48, .ireturn, 1)]
theorem dX4_pop : ∀ q ∈ tbX4_pop, decode prog_6_method_4_code q.1 = .ok q.2 := by decide +kernel
set_option maxRecDepth 20000 in
theorem cX4_pop (l : Launch) (w : WX) (hL : Lay w) (t : Nat) (ht : Wat w t 4 0) (p1 : Nat) (hp1 : Wat w p1 8 0) (M : Mem) : Ct l w yX4_pop prog_6_method_4_code 3 (Option.some FieldType.int) 2 61 evIM emM [.ref t, .ref p1] M (FX4_pop t p1 M) := by
  refine ct_of (by decide) (Nat.le_of_ble_eq_true rfl) (fun x hl hx hb hz => ?_)
  subst hl
  have hd : ∀ i, DAt (xc x).code (tbX4_pop[i]?) := fun i => by rw [hb]; exact dat_of dX4_pop i
  show C x w (Qn x w evIM emM) 3 0 [(0, .ref t), (1, .ref p1)] [] M (FX4_pop t p1 M)
  unfold FX4_pop
  refine r_aload_n (pc' := 1) hx (hd 0) rfl 0 rfl rfl ?_
  refine r_get (pc' := 4) (v := .int (mI M t 3)) hx (hd 1) fl_4_22 ht rfl (by decide) rfl ?_
  refine r_if_ne (tgt := 9) (pc' := 7) hx (hd 2) (by decide) (fun _ => ?_) rfl (fun _ => ?_)
  · skip
    refine r_aload_n (pc' := 10) hx (hd 5) rfl 0 rfl rfl ?_
    refine r_dup (pc' := 11) hx (hd 6) rfl rfl ?_
    refine r_get (pc' := 14) (v := .int (mI M t 3)) hx (hd 7) fl_4_22 ht rfl (by decide) rfl ?_
    refine r_iconst (pc' := 15) (v := 1) hx (hd 8) (by decide) rfl ?_
    refine r_isub (pc' := 16) hx (hd 9) rfl ?_
    refine r_putI (pc' := 19) hx (hd 10) fp_4_22 ht rfl (by decide) rfl (fun M1 => ?_)
    refine r_aload_n (pc' := 20) hx (hd 11) rfl 0 rfl rfl ?_
    refine r_get (pc' := 23) (v := .int (mI M1 t 2)) hx (hd 12) fl_4_26 ht rfl (by decide) rfl ?_
    refine r_aload_n (pc' := 24) hx (hd 13) rfl 0 rfl rfl ?_
    refine r_get (pc' := 27) (v := .int (mI M1 t 3)) hx (hd 14) fl_4_22 ht rfl (by decide) rfl ?_
    refine r_iadd (pc' := 28) hx (hd 15) rfl ?_
    refine r_bipush (pc' := 30) (v := 16) hx (hd 16) (by decide) rfl ?_
    refine r_irem (pc' := 31) hx (hd 17) (by decide) rfl ?_
    refine r_nmI (fun v2 => ?_)
    refine r_istore_n (pc' := 32) (L' := [(2, .int v2), (0, .ref t), (1, .ref p1)]) hx (hd 18) rfl (by decide) rfl rfl ?_
    refine r_aload_n (pc' := 33) hx (hd 19) rfl 2 rfl rfl ?_
    refine r_aload_n (pc' := 34) hx (hd 20) rfl 1 rfl rfl ?_
    refine r_get (pc' := 37) (v := .ref (t + 1)) hx (hd 21) fl_4_13 ht rfl (by decide) rfl ?_
    have h3 := hL.1 _ _ _ ht 0 1 30 16 rfl
    refine r_iload_n (pc' := 38) hx (hd 22) rfl 0 rfl rfl ?_
    refine r_gd (fun h4 => ?_)
    refine r_aald (pc' := 39) (k := ix v2) hx (hd 23) h3 rfl rfl rfl h4 rfl rfl ?_
    have h5 := hL.2 _ _ _ h3 3 2 4 8 0 rfl (ix v2) (inb_lt h4)
    refine r_callVU (pc' := 42) (As := [.ref ((t + 1) + 2 + 4 * (ix v2))]) (rest := []) hx (hd 24) md_X8_copyFrom mi_X8_copyFrom ms_X8_copyFrom ml_4_29 (cX8_copyFrom (xl x) w hL p1 hp1 ((t + 1) + 2 + 4 * (ix v2)) h5 M1) hp1 rfl (by decide) ⟨Nat.le_of_ble_eq_true rfl, Nat.le_of_ble_eq_true rfl⟩ rfl rfl (Nat.le_of_ble_eq_true rfl) rfl (fun M6 => ?_)
    refine r_aload_n (pc' := 43) hx (hd 25) rfl 1 rfl rfl ?_
    refine r_get (pc' := 46) (v := .ref (t + 2)) hx (hd 26) fl_4_17 ht rfl (by decide) rfl ?_
    have h7 := hL.1 _ _ _ ht 1 2 20 16 rfl
    refine r_iload_n (pc' := 47) hx (hd 27) rfl 0 rfl rfl ?_
    refine r_gd (fun h8 => ?_)
    refine r_iald (pc' := 48) (k := ix v2) hx (hd 28) h7 h8 rfl rfl ?_
    exact r_iret hx (hd 29) rfl rfl hz
  · skip
    refine r_iconst (pc' := 8) (v := (-1)) hx (hd 3) (by decide) rfl ?_
    exact r_iret hx (hd 4) rfl rfl hz
abbrev yX11_undo : MethodName := ({ cls := "CribbageRoom", name := "undo", desc := "()I" } : Jvm.MethodName)
def tbX11_undo : List (Nat × Instr × Nat) := [(0, .aload_n 0, 1), (1, .getfield 23, 3), (4, .getfield 193, 3), (7, .ifCond .ne 10, 3), (10, .aload_n 0, 1), (11, .bipush (-3), 2), (13, .invokevirtual 211, 3), (16, .ireturn, 1), (17, .aload_n 0, 1), (18, .aload_n 0, 1), (19, .getfield 23, 3), (22, .aload_n 0, 1), (23, .getfield 12, 3), (26, .getfield 113, 3), (29, .invokevirtual 297, 3), (32, .invokevirtual 221, 3), (35, .ireturn, 1)]
theorem dX11_undo : ∀ q ∈ tbX11_undo, decode prog_1_method_20_code q.1 = .ok q.2 := by decide +kernel
set_option maxRecDepth 20000 in
theorem cX11_undo (l : Launch) (w : WX) (hL : Lay w) (t : Nat) (ht : Wat w t 11 0) (M : Mem) : Ct l w yX11_undo prog_1_method_20_code 1 (Option.some FieldType.int) 3 83 evIM emM [.ref t] M (FX11_undo t M) := by
  refine ct_of (by decide) (Nat.le_of_ble_eq_true rfl) (fun x hl hx hb hz => ?_)
  subst hl
  have hd : ∀ i, DAt (xc x).code (tbX11_undo[i]?) := fun i => by rw [hb]; exact dat_of dX11_undo i
  show C x w (Qn x w evIM emM) 1 0 [(0, .ref t)] [] M (FX11_undo t M)
  unfold FX11_undo
  refine r_aload_n (pc' := 1) hx (hd 0) rfl 0 rfl rfl ?_
  refine r_get (pc' := 4) (v := .ref (t + 29)) hx (hd 1) fl_11_23 ht rfl (by decide) rfl ?_
  have h1 := hL.1 _ _ _ ht 2 29 4 0 rfl
  refine r_get (pc' := 7) (v := .int (mI M (t + 29) 3)) hx (hd 2) fl_11_193 h1 rfl (by decide) rfl ?_
  refine r_if_ne (tgt := 17) (pc' := 10) hx (hd 3) (by decide) (fun _ => ?_) rfl (fun _ => ?_)
  · skip
    refine r_aload_n (pc' := 18) hx (hd 8) rfl 0 rfl rfl ?_
    refine r_aload_n (pc' := 19) hx (hd 9) rfl 0 rfl rfl ?_
    refine r_get (pc' := 22) (v := .ref (t + 29)) hx (hd 10) fl_11_23 ht rfl (by decide) rfl ?_
    have h2 := hL.1 _ _ _ ht 2 29 4 0 rfl
    refine r_aload_n (pc' := 23) hx (hd 11) rfl 0 rfl rfl ?_
    refine r_get (pc' := 26) (v := .ref (t + 1)) hx (hd 12) fl_11_12 ht rfl (by decide) rfl ?_
    have h3 := hL.1 _ _ _ ht 0 1 6 0 rfl
    refine r_get (pc' := 29) (v := .ref ((t + 1) + 1)) hx (hd 13) fl_11_113 h3 rfl (by decide) rfl ?_
    have h4 := hL.1 _ _ _ h3 0 1 8 0 rfl
    refine r_callVI (pc' := 32) (As := [.ref ((t + 1) + 1)]) (rest := [.ref t]) hx (hd 14) md_X4_pop mi_X4_pop ms_X4_pop ml_11_297 (cX4_pop (xl x) w hL (t + 29) h2 ((t + 1) + 1) h4 M) h2 rfl (by decide) ⟨Nat.le_of_ble_eq_true rfl, Nat.le_of_ble_eq_true rfl⟩ rfl rfl (Nat.le_of_ble_eq_true rfl) (fun r6 => .int r6 :: [.ref t]) (fun _ => rfl) rfl (fun r6 M5 => ?_)
    refine r_callVI (pc' := 35) (As := [.int r6]) (rest := []) hx (hd 15) md_X11_grant mi_X11_grant ms_X11_grant ml_11_221 (cX11_grant (xl x) w hL t ht r6 M5) ht rfl (by decide) ⟨Nat.le_of_ble_eq_true rfl, Nat.le_of_ble_eq_true rfl⟩ rfl rfl (Nat.le_of_ble_eq_true rfl) (fun r8 => .int r8 :: []) (fun _ => rfl) rfl (fun r8 M7 => ?_)
    exact r_iret hx (hd 16) rfl rfl hz
  · skip
    refine r_aload_n (pc' := 11) hx (hd 4) rfl 0 rfl rfl ?_
    refine r_bipush (pc' := 13) (v := (-3)) hx (hd 5) (by decide) rfl ?_
    refine r_callVI (pc' := 16) (As := [.int (-3)]) (rest := []) hx (hd 6) md_X11_refuse mi_X11_refuse ms_X11_refuse ml_11_211 (cX11_refuse (xl x) w hL t ht (-3) M) ht rfl (by decide) ⟨Nat.le_of_ble_eq_true rfl, Nat.le_of_ble_eq_true rfl⟩ rfl rfl (Nat.le_of_ble_eq_true rfl) (fun r10 => .int r10 :: []) (fun _ => rfl) rfl (fun r10 M9 => ?_)
    exact r_iret hx (hd 7) rfl rfl hz
abbrev yX11_hold : MethodName := ({ cls := "CribbageRoom", name := "hold", desc := "(I)I" } : Jvm.MethodName)
def tbX11_hold : List (Nat × Instr × Nat) := [(0, .iload_n 1, 1), (1, .invokestatic 106, 3), (4, .ifCond .ne 9, 3), (7, .aload_n 0, 1), (8, .iconst (-1), 1), (9, .invokevirtual 211, 3), (12, .ireturn, 1), (13, .aload_n 0, 1), (14, .getfield 12, 3), (17, .getfield 138, 3), (20, .iload_n 1, 1), (21, .invokestatic 128, 3), (24, .ifCond .eq 10, 3), (27, .aload_n 0, 1), (28, .bipush (-3), 2), (30, .invokevirtual 211, 3), (33, .ireturn, 1), (34, .aload_n 0, 1), (35, .getfield 12, 3), (38, .getfield 138, 3), (41, .invokestatic 148, 3), (44, .bipush 6, 2), (46, .if_icmp .lt 10, 3), (49, .aload_n 0, 1), (50, .bipush (-5), 2), (52, .invokevirtual 211, 3), (55, .ireturn, 1), (56, .aload_n 0, 1), (57, .getfield 12, 3), (60, .dup, 1), (61, .getfield 138, 3), (64, .iload_n 1, 1), (65, .invokestatic 231, 3), (68, .lor, 1), (69, .putfield 138, 3), (72, .aload_n 0, 1), (73, .aload_n 0, 1), (74, .getfield 12, 3), (77, .getfield 138, 3), (80, .invokestatic 148, 3), (83, .invokevirtual 221, 3), (86, .ireturn, 1)]
theorem dX11_hold : ∀ q ∈ tbX11_hold, decode prog_1_method_21_code q.1 = .ok q.2 := by decide +kernel
set_option maxRecDepth 20000 in
theorem cX11_hold (l : Launch) (w : WX) (hL : Lay w) (t : Nat) (ht : Wat w t 11 0) (p1 : Int32) (M : Mem) : Ct l w yX11_hold prog_1_method_21_code 2 (Option.some FieldType.int) 2 42 evIM emM [.ref t, .int p1] M (FX11_hold t p1 M) := by
  refine ct_of (by decide) (Nat.le_of_ble_eq_true rfl) (fun x hl hx hb hz => ?_)
  subst hl
  have hd : ∀ i, DAt (xc x).code (tbX11_hold[i]?) := fun i => by rw [hb]; exact dat_of dX11_hold i
  show C x w (Qn x w evIM emM) 2 0 [(0, .ref t), (1, .int p1)] [] M (FX11_hold t p1 M)
  unfold FX11_hold
  refine r_iload_n (pc' := 1) hx (hd 0) rfl 1 rfl rfl ?_
  refine r_callS (pc' := 4) (As := [.int p1]) (rest := []) hx (hd 1) md_X11_isCard mst_X11_isCard ml_11_106 (cX11_isCard (xl x) w hL p1 M) ⟨Nat.le_of_ble_eq_true rfl, Nat.le_of_ble_eq_true rfl⟩ rfl rfl (Nat.le_of_ble_eq_true rfl) (fun r1 => .int r1 :: []) (fun _ => M) (fun _ => ⟨rfl, rfl⟩) rfl (fun r1 _ => ?_)
  refine r_if_ne (tgt := 13) (pc' := 7) hx (hd 2) (by decide) (fun _ => ?_) rfl (fun _ => ?_)
  · skip
    refine r_aload_n (pc' := 14) hx (hd 7) rfl 0 rfl rfl ?_
    refine r_get (pc' := 17) (v := .ref (t + 1)) hx (hd 8) fl_11_12 ht rfl (by decide) rfl ?_
    have h2 := hL.1 _ _ _ ht 0 1 6 0 rfl
    refine r_get (pc' := 20) (v := .long (mJ M (t + 1) 5)) hx (hd 9) fl_11_138 h2 rfl (by decide) rfl ?_
    refine r_iload_n (pc' := 21) hx (hd 10) rfl 1 rfl rfl ?_
    refine r_callS (pc' := 24) (As := [.long (mJ M (t + 1) 5), .int p1]) (rest := []) hx (hd 11) md_X11_has mst_X11_has ml_11_128 (cX11_has (xl x) w hL (mJ M (t + 1) 5) p1 M) ⟨Nat.le_of_ble_eq_true rfl, Nat.le_of_ble_eq_true rfl⟩ rfl rfl (Nat.le_of_ble_eq_true rfl) (fun r3 => .int r3 :: []) (fun _ => M) (fun _ => ⟨rfl, rfl⟩) rfl (fun r3 _ => ?_)
    refine r_if_eq (tgt := 34) (pc' := 27) hx (hd 12) (by decide) (fun _ => ?_) rfl (fun _ => ?_)
    · skip
      refine r_aload_n (pc' := 35) hx (hd 17) rfl 0 rfl rfl ?_
      refine r_get (pc' := 38) (v := .ref (t + 1)) hx (hd 18) fl_11_12 ht rfl (by decide) rfl ?_
      have h4 := hL.1 _ _ _ ht 0 1 6 0 rfl
      refine r_get (pc' := 41) (v := .long (mJ M (t + 1) 5)) hx (hd 19) fl_11_138 h4 rfl (by decide) rfl ?_
      refine r_callS (pc' := 44) (As := [.long (mJ M (t + 1) 5)]) (rest := []) hx (hd 20) md_J_Long_bitCount mst_J_Long_bitCount ml_11_148 (cJ_Long_bitCount (xl x) w hL (mJ M (t + 1) 5) M) ⟨Nat.le_of_ble_eq_true rfl, Nat.le_of_ble_eq_true rfl⟩ rfl rfl (Nat.le_of_ble_eq_true rfl) (fun r5 => .int r5 :: []) (fun _ => M) (fun _ => ⟨rfl, rfl⟩) rfl (fun r5 _ => ?_)
      refine r_bipush (pc' := 46) (v := 6) hx (hd 21) (by decide) rfl ?_
      refine r_icmp_lt (tgt := 56) (pc' := 49) hx (hd 22) (by decide) (fun _ => ?_) rfl (fun _ => ?_)
      · skip
        refine r_aload_n (pc' := 57) hx (hd 27) rfl 0 rfl rfl ?_
        refine r_get (pc' := 60) (v := .ref (t + 1)) hx (hd 28) fl_11_12 ht rfl (by decide) rfl ?_
        have h6 := hL.1 _ _ _ ht 0 1 6 0 rfl
        refine r_dup (pc' := 61) hx (hd 29) rfl rfl ?_
        refine r_get (pc' := 64) (v := .long (mJ M (t + 1) 5)) hx (hd 30) fl_11_138 h6 rfl (by decide) rfl ?_
        refine r_iload_n (pc' := 65) hx (hd 31) rfl 1 rfl rfl ?_
        refine r_callS (pc' := 68) (As := [.int p1]) (rest := [.long (mJ M (t + 1) 5), .ref (t + 1)]) hx (hd 32) md_X11_bit mst_X11_bit ml_11_231 (cX11_bit (xl x) w hL p1 M) ⟨Nat.le_of_ble_eq_true rfl, Nat.le_of_ble_eq_true rfl⟩ rfl rfl (Nat.le_of_ble_eq_true rfl) (fun r7 => .long r7 :: [.long (mJ M (t + 1) 5), .ref (t + 1)]) (fun _ => M) (fun _ => ⟨rfl, rfl⟩) rfl (fun r7 _ => ?_)
        refine r_lor (pc' := 69) hx (hd 33) rfl ?_
        refine r_putJ (pc' := 72) hx (hd 34) fp_11_138 h6 rfl (by decide) rfl (fun M8 => ?_)
        refine r_aload_n (pc' := 73) hx (hd 35) rfl 0 rfl rfl ?_
        refine r_aload_n (pc' := 74) hx (hd 36) rfl 0 rfl rfl ?_
        refine r_get (pc' := 77) (v := .ref (t + 1)) hx (hd 37) fl_11_12 ht rfl (by decide) rfl ?_
        have h9 := hL.1 _ _ _ ht 0 1 6 0 rfl
        refine r_get (pc' := 80) (v := .long (mJ M8 (t + 1) 5)) hx (hd 38) fl_11_138 h9 rfl (by decide) rfl ?_
        refine r_callS (pc' := 83) (As := [.long (mJ M8 (t + 1) 5)]) (rest := [.ref t]) hx (hd 39) md_J_Long_bitCount mst_J_Long_bitCount ml_11_148 (cJ_Long_bitCount (xl x) w hL (mJ M8 (t + 1) 5) M8) ⟨Nat.le_of_ble_eq_true rfl, Nat.le_of_ble_eq_true rfl⟩ rfl rfl (Nat.le_of_ble_eq_true rfl) (fun r10 => .int r10 :: [.ref t]) (fun _ => M8) (fun _ => ⟨rfl, rfl⟩) rfl (fun r10 _ => ?_)
        refine r_callVI (pc' := 86) (As := [.int r10]) (rest := []) hx (hd 40) md_X11_grant mi_X11_grant ms_X11_grant ml_11_221 (cX11_grant (xl x) w hL t ht r10 M8) ht rfl (by decide) ⟨Nat.le_of_ble_eq_true rfl, Nat.le_of_ble_eq_true rfl⟩ rfl rfl (Nat.le_of_ble_eq_true rfl) (fun r12 => .int r12 :: []) (fun _ => rfl) rfl (fun r12 M11 => ?_)
        exact r_iret hx (hd 41) rfl rfl hz
      · skip
        refine r_aload_n (pc' := 50) hx (hd 23) rfl 0 rfl rfl ?_
        refine r_bipush (pc' := 52) (v := (-5)) hx (hd 24) (by decide) rfl ?_
        refine r_callVI (pc' := 55) (As := [.int (-5)]) (rest := []) hx (hd 25) md_X11_refuse mi_X11_refuse ms_X11_refuse ml_11_211 (cX11_refuse (xl x) w hL t ht (-5) M) ht rfl (by decide) ⟨Nat.le_of_ble_eq_true rfl, Nat.le_of_ble_eq_true rfl⟩ rfl rfl (Nat.le_of_ble_eq_true rfl) (fun r14 => .int r14 :: []) (fun _ => rfl) rfl (fun r14 M13 => ?_)
        exact r_iret hx (hd 26) rfl rfl hz
    · skip
      refine r_aload_n (pc' := 28) hx (hd 13) rfl 0 rfl rfl ?_
      refine r_bipush (pc' := 30) (v := (-3)) hx (hd 14) (by decide) rfl ?_
      refine r_callVI (pc' := 33) (As := [.int (-3)]) (rest := []) hx (hd 15) md_X11_refuse mi_X11_refuse ms_X11_refuse ml_11_211 (cX11_refuse (xl x) w hL t ht (-3) M) ht rfl (by decide) ⟨Nat.le_of_ble_eq_true rfl, Nat.le_of_ble_eq_true rfl⟩ rfl rfl (Nat.le_of_ble_eq_true rfl) (fun r16 => .int r16 :: []) (fun _ => rfl) rfl (fun r16 M15 => ?_)
      exact r_iret hx (hd 16) rfl rfl hz
  · skip
    refine r_aload_n (pc' := 8) hx (hd 3) rfl 0 rfl rfl ?_
    refine r_iconst (pc' := 9) (v := (-1)) hx (hd 4) (by decide) rfl ?_
    refine r_callVI (pc' := 12) (As := [.int (-1)]) (rest := []) hx (hd 5) md_X11_refuse mi_X11_refuse ms_X11_refuse ml_11_211 (cX11_refuse (xl x) w hL t ht (-1) M) ht rfl (by decide) ⟨Nat.le_of_ble_eq_true rfl, Nat.le_of_ble_eq_true rfl⟩ rfl rfl (Nat.le_of_ble_eq_true rfl) (fun r18 => .int r18 :: []) (fun _ => rfl) rfl (fun r18 M17 => ?_)
    exact r_iret hx (hd 6) rfl rfl hz
abbrev yX11_drop : MethodName := ({ cls := "CribbageRoom", name := "drop", desc := "()I" } : Jvm.MethodName)
def tbX11_drop : List (Nat × Instr × Nat) := [(0, .aload_n 0, 1), (1, .getfield 12, 3), (4, .getfield 138, 3), (7, .invokestatic 148, 3), (10, .istore_n 1, 1), (11, .aload_n 0, 1), (12, .getfield 12, 3), (15, .lconst 0, 1), (16, .putfield 138, 3), (19, .iload_n 1, 1), (20, .ireturn, 1)]
theorem dX11_drop : ∀ q ∈ tbX11_drop, decode prog_1_method_22_code q.1 = .ok q.2 := by decide +kernel
set_option maxRecDepth 20000 in
theorem cX11_drop (l : Launch) (w : WX) (hL : Lay w) (t : Nat) (ht : Wat w t 11 0) (M : Mem) : Ct l w yX11_drop prog_1_method_22_code 2 (Option.some FieldType.int) 1 21 evIM emM [.ref t] M (FX11_drop t M) := by
  refine ct_of (by decide) (Nat.le_of_ble_eq_true rfl) (fun x hl hx hb hz => ?_)
  subst hl
  have hd : ∀ i, DAt (xc x).code (tbX11_drop[i]?) := fun i => by rw [hb]; exact dat_of dX11_drop i
  show C x w (Qn x w evIM emM) 2 0 [(0, .ref t)] [] M (FX11_drop t M)
  unfold FX11_drop
  refine r_aload_n (pc' := 1) hx (hd 0) rfl 0 rfl rfl ?_
  refine r_get (pc' := 4) (v := .ref (t + 1)) hx (hd 1) fl_11_12 ht rfl (by decide) rfl ?_
  have h1 := hL.1 _ _ _ ht 0 1 6 0 rfl
  refine r_get (pc' := 7) (v := .long (mJ M (t + 1) 5)) hx (hd 2) fl_11_138 h1 rfl (by decide) rfl ?_
  refine r_callS (pc' := 10) (As := [.long (mJ M (t + 1) 5)]) (rest := []) hx (hd 3) md_J_Long_bitCount mst_J_Long_bitCount ml_11_148 (cJ_Long_bitCount (xl x) w hL (mJ M (t + 1) 5) M) ⟨Nat.le_of_ble_eq_true rfl, Nat.le_of_ble_eq_true rfl⟩ rfl rfl (Nat.le_of_ble_eq_true rfl) (fun r2 => .int r2 :: []) (fun _ => M) (fun _ => ⟨rfl, rfl⟩) rfl (fun r2 _ => ?_)
  refine r_istore_n (pc' := 11) (L' := [(1, .int r2), (0, .ref t)]) hx (hd 4) rfl (by decide) rfl rfl ?_
  refine r_aload_n (pc' := 12) hx (hd 5) rfl 1 rfl rfl ?_
  refine r_get (pc' := 15) (v := .ref (t + 1)) hx (hd 6) fl_11_12 ht rfl (by decide) rfl ?_
  have h3 := hL.1 _ _ _ ht 0 1 6 0 rfl
  refine r_lconst (pc' := 16) (v := 0) hx (hd 7) (by decide) rfl ?_
  refine r_putJ (pc' := 19) hx (hd 8) fp_11_138 h3 rfl (by decide) rfl (fun M4 => ?_)
  refine r_iload_n (pc' := 20) hx (hd 9) rfl 0 rfl rfl ?_
  exact r_iret hx (hd 10) rfl rfl hz
abbrev yX11_canCount : MethodName := ({ cls := "CribbageRoom", name := "canCount", desc := "(I)Z" } : Jvm.MethodName)
def tbX11_canCount : List (Nat × Instr × Nat) := [(0, .aload_n 0, 1), (1, .getfield 12, 3), (4, .getfield 138, 3), (7, .invokestatic 148, 3), (10, .iconst 4, 1), (11, .if_icmp .ne 28, 3), (14, .iload_n 1, 1), (15, .invokestatic 106, 3), (18, .ifCond .eq 21, 3), (21, .aload_n 0, 1), (22, .getfield 12, 3), (25, .getfield 138, 3), (28, .iload_n 1, 1), (29, .invokestatic 128, 3), (32, .ifCond .ne 7, 3), (35, .iconst 1, 1), (36, .goto 4, 3), (39, .iconst 0, 1), (40, .ireturn, 1)]
theorem dX11_canCount : ∀ q ∈ tbX11_canCount, decode prog_1_method_43_code q.1 = .ok q.2 := by decide +kernel
set_option maxRecDepth 20000 in
theorem cX11_canCount (l : Launch) (w : WX) (hL : Lay w) (t : Nat) (ht : Wat w t 11 0) (p1 : Int32) (M : Mem) : Ct l w yX11_canCount prog_1_method_43_code 2 (Option.some FieldType.boolean) 2 42 evI (emC M) [.ref t, .int p1] M (FX11_canCount t p1 M) := by
  refine ct_of (by decide) (Nat.le_of_ble_eq_true rfl) (fun x hl hx hb hz => ?_)
  subst hl
  have hd : ∀ i, DAt (xc x).code (tbX11_canCount[i]?) := fun i => by rw [hb]; exact dat_of dX11_canCount i
  show C x w (Qn x w evI (emC M)) 2 0 [(0, .ref t), (1, .int p1)] [] M (FX11_canCount t p1 M)
  unfold FX11_canCount
  refine r_aload_n (pc' := 1) hx (hd 0) rfl 0 rfl rfl ?_
  refine r_get (pc' := 4) (v := .ref (t + 1)) hx (hd 1) fl_11_12 ht rfl (by decide) rfl ?_
  have h1 := hL.1 _ _ _ ht 0 1 6 0 rfl
  refine r_get (pc' := 7) (v := .long (mJ M (t + 1) 5)) hx (hd 2) fl_11_138 h1 rfl (by decide) rfl ?_
  refine r_callS (pc' := 10) (As := [.long (mJ M (t + 1) 5)]) (rest := []) hx (hd 3) md_J_Long_bitCount mst_J_Long_bitCount ml_11_148 (cJ_Long_bitCount (xl x) w hL (mJ M (t + 1) 5) M) ⟨Nat.le_of_ble_eq_true rfl, Nat.le_of_ble_eq_true rfl⟩ rfl rfl (Nat.le_of_ble_eq_true rfl) (fun r2 => .int r2 :: []) (fun _ => M) (fun _ => ⟨rfl, rfl⟩) rfl (fun r2 _ => ?_)
  refine r_iconst (pc' := 11) (v := 4) hx (hd 4) (by decide) rfl ?_
  refine r_jn1 40 (fun v3 => []) (fun v3 => [.int v3]) (fun v3 => M) (fun v3 => ?_) (fun j4 hj5 => ?_)
  · skip
    refine r_gd (fun h6 => ?_)
    exact r_zret hx (hd 18) h6 rfl rfl hz
  refine r_jn0 39 ([]) ([]) (M) (?_) (fun j7 hj8 => ?_)
  · skip
    refine r_iconst (pc' := 40) (v := 0) hx (hd 17) (by decide) rfl ?_
    exact hj5 0
  refine r_icmp_ne (tgt := 39) (pc' := 14) hx (hd 5) (by decide) (fun _ => ?_) rfl (fun _ => ?_)
  · skip
    refine r_sub [] rfl ?_
    exact hj8
  · skip
    refine r_iload_n (pc' := 15) hx (hd 6) rfl 1 rfl rfl ?_
    refine r_callS (pc' := 18) (As := [.int p1]) (rest := []) hx (hd 7) md_X11_isCard mst_X11_isCard ml_11_106 (cX11_isCard (xl x) w hL p1 M) ⟨Nat.le_of_ble_eq_true rfl, Nat.le_of_ble_eq_true rfl⟩ rfl rfl (Nat.le_of_ble_eq_true rfl) (fun r9 => .int r9 :: []) (fun _ => M) (fun _ => ⟨rfl, rfl⟩) rfl (fun r9 _ => ?_)
    refine r_if_eq (tgt := 39) (pc' := 21) hx (hd 8) (by decide) (fun _ => ?_) rfl (fun _ => ?_)
    · skip
      refine r_sub [] rfl ?_
      exact hj8
    · skip
      refine r_aload_n (pc' := 22) hx (hd 9) rfl 0 rfl rfl ?_
      refine r_get (pc' := 25) (v := .ref (t + 1)) hx (hd 10) fl_11_12 ht rfl (by decide) rfl ?_
      have h10 := hL.1 _ _ _ ht 0 1 6 0 rfl
      refine r_get (pc' := 28) (v := .long (mJ M (t + 1) 5)) hx (hd 11) fl_11_138 h10 rfl (by decide) rfl ?_
      refine r_iload_n (pc' := 29) hx (hd 12) rfl 1 rfl rfl ?_
      refine r_callS (pc' := 32) (As := [.long (mJ M (t + 1) 5), .int p1]) (rest := []) hx (hd 13) md_X11_has mst_X11_has ml_11_128 (cX11_has (xl x) w hL (mJ M (t + 1) 5) p1 M) ⟨Nat.le_of_ble_eq_true rfl, Nat.le_of_ble_eq_true rfl⟩ rfl rfl (Nat.le_of_ble_eq_true rfl) (fun r11 => .int r11 :: []) (fun _ => M) (fun _ => ⟨rfl, rfl⟩) rfl (fun r11 _ => ?_)
      refine r_if_ne (tgt := 39) (pc' := 35) hx (hd 14) (by decide) (fun _ => ?_) rfl (fun _ => ?_)
      · skip
        refine r_sub [] rfl ?_
        exact hj8
      · skip
        refine r_iconst (pc' := 36) (v := 1) hx (hd 15) (by decide) rfl ?_
        refine r_goto (tgt := 40) hx (hd 16) (by decide) ?_
        refine r_sub [] rfl ?_
        exact hj5 1
abbrev yX11_counted : MethodName := ({ cls := "CribbageRoom", name := "counted", desc := "(III)I" } : Jvm.MethodName)
def tbX11_counted : List (Nat × Instr × Nat) := [(0, .aload_n 0, 1), (1, .iload_n 1, 1), (2, .invokevirtual 301, 3), (5, .ifCond .eq 21, 3), (8, .iload_n 2, 1), (9, .ifCond .lt 17, 3), (12, .iload_n 2, 1), (13, .iconst 1, 1), (14, .if_icmp .gt 12, 3), (17, .iload_n 3, 1), (18, .ifCond .lt 8, 3), (21, .iload_n 3, 1), (22, .iconst 5, 1), (23, .if_icmp .le 5, 3), (26, .iconst (-1), 1), (27, .ireturn, 1), (28, .aload_n 0, 1), (29, .getfield 57, 3), (32, .aload_n 0, 1), (33, .getfield 12, 3), (36, .aload_n 0, 1), (37, .getfield 12, 3), (40, .getfield 110, 3), (43, .aload_n 0, 1), (44, .getfield 12, 3), (47, .getfield 113, 3), (50, .invokevirtual 116, 3), (53, .aload_n 0, 1), (54, .getfield 67, 3), (57, .aload_n 0, 1), (58, .getfield 12, 3), (61, .getfield 138, 3), (64, .iload_n 2, 1), (65, .iconst 1, 1), (66, .if_icmp .ne 7, 3), (69, .iconst 1, 1), (70, .goto 4, 3), (73, .iconst 0, 1), (74, .aload_n 0, 1), (75, .getfield 57, 3), (78, .invokevirtual 304, 3), (81, .aload_n 0, 1), (82, .getfield 67, 3), (85, .iload_n 1, 1), (86, .iload_n 3, 1), (87, .invokevirtual 308, 3), (90, .ireturn, 1)]
theorem dX11_counted : ∀ q ∈ tbX11_counted, decode prog_1_method_23_code q.1 = .ok q.2 := by decide +kernel
set_option maxRecDepth 20000 in
theorem cX11_counted (l : Launch) (w : WX) (hL : Lay w) (t : Nat) (ht : Wat w t 11 0) (p1 : Int32) (p2 : Int32) (p3 : Int32) (M : Mem) : Ct l w yX11_counted prog_1_method_23_code 4 (Option.some FieldType.int) 6 156 evIM emM [.ref t, .int p1, .int p2, .int p3] M (FX11_counted t p1 p2 p3 M) := by
  refine ct_of (by decide) (Nat.le_of_ble_eq_true rfl) (fun x hl hx hb hz => ?_)
  subst hl
  have hd : ∀ i, DAt (xc x).code (tbX11_counted[i]?) := fun i => by rw [hb]; exact dat_of dX11_counted i
  show C x w (Qn x w evIM emM) 4 0 [(0, .ref t), (1, .int p1), (2, .int p2), (3, .int p3)] [] M (FX11_counted t p1 p2 p3 M)
  unfold FX11_counted
  refine r_aload_n (pc' := 1) hx (hd 0) rfl 0 rfl rfl ?_
  refine r_iload_n (pc' := 2) hx (hd 1) rfl 1 rfl rfl ?_
  refine r_callV (pc' := 5) (As := [.int p1]) (rest := []) hx (hd 2) md_X11_canCount mi_X11_canCount ms_X11_canCount ml_11_301 (cX11_canCount (xl x) w hL t ht p1 M) ht rfl (by decide) ⟨Nat.le_of_ble_eq_true rfl, Nat.le_of_ble_eq_true rfl⟩ rfl rfl (Nat.le_of_ble_eq_true rfl) (fun r1 => .int r1 :: []) (fun _ => M) (fun _ => ⟨rfl, rfl⟩) rfl (fun r1 _ => ?_)
  refine r_jn0 26 ([]) ([]) (M) (?_) (fun j2 hj3 => ?_)
  · skip
    refine r_iconst (pc' := 27) (v := (-1)) hx (hd 14) (by decide) rfl ?_
    exact r_iret hx (hd 15) rfl rfl hz
  refine r_if_eq (tgt := 26) (pc' := 8) hx (hd 3) (by decide) (fun _ => ?_) rfl (fun _ => ?_)
  · skip
    refine r_sub [] rfl ?_
    exact hj3
  · skip
    refine r_iload_n (pc' := 9) hx (hd 4) rfl 2 rfl rfl ?_
    refine r_if_lt (tgt := 26) (pc' := 12) hx (hd 5) (by decide) (fun _ => ?_) rfl (fun _ => ?_)
    · skip
      refine r_sub [] rfl ?_
      exact hj3
    · skip
      refine r_iload_n (pc' := 13) hx (hd 6) rfl 2 rfl rfl ?_
      refine r_iconst (pc' := 14) (v := 1) hx (hd 7) (by decide) rfl ?_
      refine r_icmp_gt (tgt := 26) (pc' := 17) hx (hd 8) (by decide) (fun _ => ?_) rfl (fun _ => ?_)
      · skip
        refine r_sub [] rfl ?_
        exact hj3
      · skip
        refine r_iload_n (pc' := 18) hx (hd 9) rfl 3 rfl rfl ?_
        refine r_if_lt (tgt := 26) (pc' := 21) hx (hd 10) (by decide) (fun _ => ?_) rfl (fun _ => ?_)
        · skip
          refine r_sub [] rfl ?_
          exact hj3
        · skip
          refine r_iload_n (pc' := 22) hx (hd 11) rfl 3 rfl rfl ?_
          refine r_iconst (pc' := 23) (v := 5) hx (hd 12) (by decide) rfl ?_
          refine r_icmp_le (tgt := 28) (pc' := 26) hx (hd 13) (by decide) (fun _ => ?_) rfl (fun _ => ?_)
          · skip
            refine r_aload_n (pc' := 29) hx (hd 16) rfl 0 rfl rfl ?_
            refine r_get (pc' := 32) (v := .ref (t + 179)) hx (hd 17) fl_11_57 ht rfl (by decide) rfl ?_
            have h4 := hL.1 _ _ _ ht 8 179 10 0 rfl
            refine r_aload_n (pc' := 33) hx (hd 18) rfl 0 rfl rfl ?_
            refine r_get (pc' := 36) (v := .ref (t + 1)) hx (hd 19) fl_11_12 ht rfl (by decide) rfl ?_
            have h5 := hL.1 _ _ _ ht 0 1 6 0 rfl
            refine r_aload_n (pc' := 37) hx (hd 20) rfl 0 rfl rfl ?_
            refine r_get (pc' := 40) (v := .ref (t + 1)) hx (hd 21) fl_11_12 ht rfl (by decide) rfl ?_
            have h6 := hL.1 _ _ _ ht 0 1 6 0 rfl
            refine r_get (pc' := 43) (v := .int (mI M (t + 1) 8)) hx (hd 22) fl_11_110 h6 rfl (by decide) rfl ?_
            refine r_aload_n (pc' := 44) hx (hd 23) rfl 0 rfl rfl ?_
            refine r_get (pc' := 47) (v := .ref (t + 1)) hx (hd 24) fl_11_12 ht rfl (by decide) rfl ?_
            have h7 := hL.1 _ _ _ ht 0 1 6 0 rfl
            refine r_get (pc' := 50) (v := .ref ((t + 1) + 1)) hx (hd 25) fl_11_113 h7 rfl (by decide) rfl ?_
            have h8 := hL.1 _ _ _ h7 0 1 8 0 rfl
            refine r_callVU (pc' := 53) (As := [.ref (t + 1), .int (mI M (t + 1) 8), .ref ((t + 1) + 1)]) (rest := []) hx (hd 26) md_X10_fit mi_X10_fit ms_X10_fit ml_11_116 (cX10_fit (xl x) w hL (t + 179) h4 (t + 1) h5 (mI M (t + 1) 8) ((t + 1) + 1) h8 M) h4 rfl (by decide) ⟨Nat.le_of_ble_eq_true rfl, Nat.le_of_ble_eq_true rfl⟩ rfl rfl (Nat.le_of_ble_eq_true rfl) rfl (fun M9 => ?_)
            refine r_aload_n (pc' := 54) hx (hd 27) rfl 0 rfl rfl ?_
            refine r_get (pc' := 57) (v := .ref (t + 203)) hx (hd 28) fl_11_67 ht rfl (by decide) rfl ?_
            have h10 := hL.1 _ _ _ ht 10 203 2 0 rfl
            refine r_aload_n (pc' := 58) hx (hd 29) rfl 0 rfl rfl ?_
            refine r_get (pc' := 61) (v := .ref (t + 1)) hx (hd 30) fl_11_12 ht rfl (by decide) rfl ?_
            have h11 := hL.1 _ _ _ ht 0 1 6 0 rfl
            refine r_get (pc' := 64) (v := .long (mJ M9 (t + 1) 5)) hx (hd 31) fl_11_138 h11 rfl (by decide) rfl ?_
            refine r_iload_n (pc' := 65) hx (hd 32) rfl 2 rfl rfl ?_
            refine r_iconst (pc' := 66) (v := 1) hx (hd 33) (by decide) rfl ?_
            refine r_jn1 74 (fun v12 => [(0, .ref t), (1, .int p1), (3, .int p3)]) (fun v12 => [.int v12, .long (mJ M9 (t + 1) 5), .ref (t + 203)]) (fun v12 => M9) (fun v12 => ?_) (fun j13 hj14 => ?_)
            · skip
              refine r_aload_n (pc' := 75) hx (hd 38) rfl 0 rfl rfl ?_
              refine r_get (pc' := 78) (v := .ref (t + 179)) hx (hd 39) fl_11_57 ht rfl (by decide) rfl ?_
              have h15 := hL.1 _ _ _ ht 8 179 10 0 rfl
              refine r_callVU (pc' := 81) (As := [.long (mJ M9 (t + 1) 5), .int v12, .ref (t + 179)]) (rest := []) hx (hd 40) md_X2_take mi_X2_take ms_X2_take ml_11_304 (cX2_take (xl x) w hL (t + 203) h10 (mJ M9 (t + 1) 5) v12 (t + 179) h15 M9) h10 rfl (by decide) ⟨Nat.le_of_ble_eq_true rfl, Nat.le_of_ble_eq_true rfl⟩ rfl rfl (Nat.le_of_ble_eq_true rfl) rfl (fun M16 => ?_)
              refine r_aload_n (pc' := 82) hx (hd 41) rfl 0 rfl rfl ?_
              refine r_get (pc' := 85) (v := .ref (t + 203)) hx (hd 42) fl_11_67 ht rfl (by decide) rfl ?_
              have h17 := hL.1 _ _ _ ht 10 203 2 0 rfl
              refine r_iload_n (pc' := 86) hx (hd 43) rfl 1 rfl rfl ?_
              refine r_iload_n (pc' := 87) hx (hd 44) rfl 2 rfl rfl ?_
              refine r_callV (pc' := 90) (As := [.int p1, .int p3]) (rest := []) hx (hd 45) md_X2_part mi_X2_part ms_X2_part ml_11_308 (cX2_part (xl x) w hL (t + 203) h17 p1 p3 M16) h17 rfl (by decide) ⟨Nat.le_of_ble_eq_true rfl, Nat.le_of_ble_eq_true rfl⟩ rfl rfl (Nat.le_of_ble_eq_true rfl) (fun r18 => .int r18 :: []) (fun _ => M16) (fun _ => ⟨rfl, rfl⟩) rfl (fun r18 _ => ?_)
              exact r_iret hx (hd 46) rfl rfl hz
            refine r_icmp_ne (tgt := 73) (pc' := 69) hx (hd 34) (by decide) (fun _ => ?_) rfl (fun _ => ?_)
            · skip
              refine r_iconst (pc' := 74) (v := 0) hx (hd 37) (by decide) rfl ?_
              refine r_sub [0, 1, 3] rfl ?_
              exact hj14 0
            · skip
              refine r_iconst (pc' := 70) (v := 1) hx (hd 35) (by decide) rfl ?_
              refine r_goto (tgt := 74) hx (hd 36) (by decide) ?_
              refine r_sub [0, 1, 3] rfl ?_
              exact hj14 1
          · skip
            refine r_sub [] rfl ?_
            exact hj3
abbrev yX3_countAll : MethodName := ({ cls := "CribbageRoom$Fours", name := "countAll", desc := "(JLCribbageRoom$Four;LCribbageRoom$Worth;)V" } : Jvm.MethodName)
def tbX3_countAll : List (Nat × Instr × Nat) := [(0, .aload_n 0, 1), (1, .lload_n 1, 1), (2, .putfield 23, 3), (5, .iconst 0, 1), (6, .istore 5, 2), (8, .iconst 0, 1), (9, .istore 6, 2), (11, .iload 6, 2), (13, .bipush 6, 2), (15, .if_icmp .ge 160, 3), (18, .iload 6, 2), (20, .iconst 1, 1), (21, .iadd, 1), (22, .istore 7, 2), (24, .iload 7, 2), (26, .bipush 6, 2), (28, .if_icmp .ge 141, 3), (31, .iload 5, 2), (33, .bipush 15, 2), (35, .if_icmp .ge 134, 3), (38, .aload_n 0, 1), (39, .getfield 16, 3), (42, .iload 5, 2), (44, .aload_n 0, 1), (45, .getfield 23, 3), (48, .iload 6, 2), (50, .invokestatic 27, 3), (53, .iastore, 1), (54, .aload_n 0, 1), (55, .getfield 20, 3), (58, .iload 5, 2), (60, .aload_n 0, 1), (61, .getfield 23, 3), (64, .iload 7, 2), (66, .invokestatic 27, 3), (69, .iastore, 1), (70, .aload_n 3, 1), (71, .aload_n 0, 1), (72, .getfield 23, 3), (75, .aload_n 0, 1), (76, .getfield 16, 3), (79, .iload 5, 2), (81, .iaload, 1), (82, .invokestatic 31, 3), (85, .ldc2_w 35, 3), (88, .lxor, 1), (89, .land, 1), (90, .aload_n 0, 1), (91, .getfield 20, 3), (94, .iload 5, 2), (96, .iaload, 1), (97, .invokestatic 31, 3), (100, .ldc2_w 35, 3), (103, .lxor, 1), (104, .land, 1), (105, .iconst 0, 1), (106, .aload 4, 2), (108, .invokevirtual 37, 3), (111, .iconst 0, 1), (112, .istore 8, 2), (114, .iload 8, 2), (116, .bipush 52, 2), (118, .if_icmp .ge 42, 3), (121, .aload_n 0, 1), (122, .getfield 11, 3), (125, .iload 5, 2), (127, .aaload, 1), (128, .iload 8, 2), (130, .aload_n 0, 1), (131, .getfield 23, 3), (134, .iload 8, 2), (136, .invokestatic 43, 3), (139, .ifCond .eq 7, 3), (142, .iconst (-1), 1), (143, .goto 10, 3), (146, .aload_n 3, 1), (147, .iload 8, 2), (149, .iconst 0, 1), (150, .invokevirtual 47, 3), (153, .iastore, 1), (154, .iinc 8 1, 3), (157, .goto (-43), 3), (160, .iinc 5 1, 3), (163, .iinc 7 1, 3), (166, .goto (-142), 3), (169, .iinc 6 1, 3), (172, .goto (-161), 3), (175, .return_, 1)]
theorem dX3_countAll : ∀ q ∈ tbX3_countAll, decode prog_5_method_2_code q.1 = .ok q.2 := by decide +kernel
set_option maxRecDepth 20000 in
theorem cX3_countAll (l : Launch) (w : WX) (hL : Lay w) (t : Nat) (ht : Wat w t 3 0) (p1 : Int64) (p3 : Nat) (hp3 : Wat w p3 2 0) (p4 : Nat) (hp4 : Wat w p4 10 0) (M : Mem) : Ct l w yX3_countAll prog_5_method_2_code 9 (Option.none : Option FieldType) 4 96 evU emU [.ref t, .long p1, .ref p3, .ref p4] M (FX3_countAll t p1 p3 p4 M) := by
  refine ct_of (by decide) (Nat.le_of_ble_eq_true rfl) (fun x hl hx hb hz => ?_)
  subst hl
  have hd : ∀ i, DAt (xc x).code (tbX3_countAll[i]?) := fun i => by rw [hb]; exact dat_of dX3_countAll i
  show C x w (Qn x w evU emU) 9 0 [(0, .ref t), (1, .long p1), (3, .ref p3), (4, .ref p4)] [] M (FX3_countAll t p1 p3 p4 M)
  unfold FX3_countAll
  refine r_aload_n (pc' := 1) hx (hd 0) rfl 0 rfl rfl ?_
  refine r_lload_n (pc' := 2) hx (hd 1) rfl 1 rfl rfl ?_
  refine r_putJ (pc' := 5) hx (hd 2) fp_3_23 ht rfl (by decide) rfl (fun M1 => ?_)
  refine r_iconst (pc' := 6) (v := 0) hx (hd 3) (by decide) rfl ?_
  refine r_istore (pc' := 8) (L' := [(5, .int 0), (0, .ref t), (1, .long p1), (3, .ref p3), (4, .ref p4)]) hx (hd 4) (by decide) rfl rfl ?_
  refine r_iconst (pc' := 9) (v := 0) hx (hd 5) (by decide) rfl ?_
  refine r_istore (pc' := 11) (L' := [(6, .int 0), (5, .int 0), (0, .ref t), (1, .long p1), (3, .ref p3), (4, .ref p4)]) hx (hd 6) (by decide) rfl rfl ?_
  refine r_sub [2, 4, 5, 1, 0] rfl ?_
  refine r_wl3 (fun v2 v3 M4 => [(0, .ref t), (3, .ref p3), (4, .ref p4), (5, .int v2), (6, .int v3)]) (fun v2 v3 M4 => []) (fun v2 v3 M4 => M4) (fun v2 v3 M4 rec5 ih6 => ?_) fuel 0 0 M1
  refine r_iload (pc' := 13) hx (hd 7) 4 rfl rfl ?_
  refine r_bipush (pc' := 15) (v := 6) hx (hd 8) (by decide) rfl ?_
  refine r_icmp_ge (tgt := 175) (pc' := 18) hx (hd 9) (by decide) (fun _ => ?_) rfl (fun _ => ?_)
  · skip
    exact r_vret hx (hd 87) rfl rfl hz
  · skip
    refine r_iload (pc' := 20) hx (hd 10) 4 rfl rfl ?_
    refine r_iconst (pc' := 21) (v := 1) hx (hd 11) (by decide) rfl ?_
    refine r_iadd (pc' := 22) hx (hd 12) rfl ?_
    refine r_nmI (fun v7 => ?_)
    refine r_istore (pc' := 24) (L' := [(7, .int v7), (0, .ref t), (3, .ref p3), (4, .ref p4), (5, .int v2), (6, .int v3)]) hx (hd 13) (by decide) rfl rfl ?_
    refine r_sub [1, 2, 3, 4, 5, 0] rfl ?_
    refine r_wl3 (fun v8 v9 M10 => [(0, .ref t), (3, .ref p3), (4, .ref p4), (5, .int v8), (6, .int v3), (7, .int v9)]) (fun v8 v9 M10 => []) (fun v8 v9 M10 => M10) (fun v8 v9 M10 rec11 ih12 => ?_) fuel v2 v7 M4
    refine r_iload (pc' := 26) hx (hd 14) 5 rfl rfl ?_
    refine r_bipush (pc' := 28) (v := 6) hx (hd 15) (by decide) rfl ?_
    refine r_jn0 169 ([(0, .ref t), (3, .ref p3), (4, .ref p4), (5, .int v8), (6, .int v3)]) ([]) (M10) (?_) (fun j13 hj14 => ?_)
    · skip
      refine r_iinc (pc' := 172) (v := 1) hx (hd 85) 4 rfl (by decide) (by decide) (fun v15 => [(6, .int v15), (0, .ref t), (3, .ref p3), (4, .ref p4), (5, .int v8)]) (fun _ => rfl) rfl (fun v15 => ?_)
      refine r_goto (tgt := 11) hx (hd 86) (by decide) ?_
      refine r_sub [1, 2, 3, 4, 0] rfl ?_
      exact ih6 v8 v15 M10
    refine r_icmp_ge (tgt := 169) (pc' := 31) hx (hd 16) (by decide) (fun _ => ?_) rfl (fun _ => ?_)
    · skip
      refine r_sub [0, 1, 2, 3, 4] rfl ?_
      exact hj14
    · skip
      refine r_iload (pc' := 33) hx (hd 17) 3 rfl rfl ?_
      refine r_bipush (pc' := 35) (v := 15) hx (hd 18) (by decide) rfl ?_
      refine r_icmp_ge (tgt := 169) (pc' := 38) hx (hd 19) (by decide) (fun _ => ?_) rfl (fun _ => ?_)
      · skip
        refine r_sub [0, 1, 2, 3, 4] rfl ?_
        exact hj14
      · skip
        refine r_aload_n (pc' := 39) hx (hd 20) rfl 0 rfl rfl ?_
        refine r_get (pc' := 42) (v := .ref (t + 17)) hx (hd 21) fl_3_16 ht rfl (by decide) rfl ?_
        have h16 := hL.1 _ _ _ ht 1 17 20 15 rfl
        refine r_iload (pc' := 44) hx (hd 22) 3 rfl rfl ?_
        refine r_aload_n (pc' := 45) hx (hd 23) rfl 0 rfl rfl ?_
        refine r_get (pc' := 48) (v := .long (mJ M10 t 3)) hx (hd 24) fl_3_23 ht rfl (by decide) rfl ?_
        refine r_iload (pc' := 50) hx (hd 25) 4 rfl rfl ?_
        refine r_callSN (pc' := 53) (As := [.long (mJ M10 t 3), .int v3]) (rest := [.int v8, .ref (t + 17)]) hx (hd 26) md_X11_cardAt mst_X11_cardAt ml_3_27 (cX11_cardAt (xl x) w hL (mJ M10 t 3) v3 M10) ⟨Nat.le_of_ble_eq_true rfl, Nat.le_of_ble_eq_true rfl⟩ rfl rfl (Nat.le_of_ble_eq_true rfl) (fun r17 => .int r17 :: [.int v8, .ref (t + 17)]) (fun _ => M10) (fun _ => ⟨rfl, rfl⟩) rfl (fun r17 _ => ?_)
        refine r_gd (fun h19 => ?_)
        refine r_iast (pc' := 54) (k := ix v8) hx (hd 27) h16 h19 rfl rfl (fun M18 => ?_)
        refine r_aload_n (pc' := 55) hx (hd 28) rfl 0 rfl rfl ?_
        refine r_get (pc' := 58) (v := .ref (t + 18)) hx (hd 29) fl_3_20 ht rfl (by decide) rfl ?_
        have h20 := hL.1 _ _ _ ht 2 18 20 15 rfl
        refine r_iload (pc' := 60) hx (hd 30) 3 rfl rfl ?_
        refine r_aload_n (pc' := 61) hx (hd 31) rfl 0 rfl rfl ?_
        refine r_get (pc' := 64) (v := .long (mJ M18 t 3)) hx (hd 32) fl_3_23 ht rfl (by decide) rfl ?_
        refine r_iload (pc' := 66) hx (hd 33) 5 rfl rfl ?_
        refine r_callSN (pc' := 69) (As := [.long (mJ M18 t 3), .int v9]) (rest := [.int v8, .ref (t + 18)]) hx (hd 34) md_X11_cardAt mst_X11_cardAt ml_3_27 (cX11_cardAt (xl x) w hL (mJ M18 t 3) v9 M18) ⟨Nat.le_of_ble_eq_true rfl, Nat.le_of_ble_eq_true rfl⟩ rfl rfl (Nat.le_of_ble_eq_true rfl) (fun r21 => .int r21 :: [.int v8, .ref (t + 18)]) (fun _ => M18) (fun _ => ⟨rfl, rfl⟩) rfl (fun r21 _ => ?_)
        refine r_gd (fun h23 => ?_)
        refine r_iast (pc' := 70) (k := ix v8) hx (hd 35) h20 h23 rfl rfl (fun M22 => ?_)
        refine r_aload_n (pc' := 71) hx (hd 36) rfl 1 rfl rfl ?_
        refine r_aload_n (pc' := 72) hx (hd 37) rfl 0 rfl rfl ?_
        refine r_get (pc' := 75) (v := .long (mJ M22 t 3)) hx (hd 38) fl_3_23 ht rfl (by decide) rfl ?_
        refine r_aload_n (pc' := 76) hx (hd 39) rfl 0 rfl rfl ?_
        refine r_get (pc' := 79) (v := .ref (t + 17)) hx (hd 40) fl_3_16 ht rfl (by decide) rfl ?_
        have h24 := hL.1 _ _ _ ht 1 17 20 15 rfl
        refine r_iload (pc' := 81) hx (hd 41) 3 rfl rfl ?_
        refine r_gd (fun h25 => ?_)
        refine r_iald (pc' := 82) (k := ix v8) hx (hd 42) h24 h25 rfl rfl ?_
        refine r_callSN (pc' := 85) (As := [.int (mI M22 (t + 17) (ix v8))]) (rest := [.long (mJ M22 t 3), .ref p3]) hx (hd 43) md_X11_bit mst_X11_bit ml_3_31 (cX11_bit (xl x) w hL (mI M22 (t + 17) (ix v8)) M22) ⟨Nat.le_of_ble_eq_true rfl, Nat.le_of_ble_eq_true rfl⟩ rfl rfl (Nat.le_of_ble_eq_true rfl) (fun r26 => .long r26 :: [.long (mJ M22 t 3), .ref p3]) (fun _ => M22) (fun _ => ⟨rfl, rfl⟩) rfl (fun r26 _ => ?_)
        refine r_ldc2 (pc' := 88) hx (hd 44) kc_3_35 rfl ?_
        refine r_lxor (pc' := 89) hx (hd 45) rfl ?_
        refine r_land (pc' := 90) hx (hd 46) rfl ?_
        refine r_aload_n (pc' := 91) hx (hd 47) rfl 0 rfl rfl ?_
        refine r_get (pc' := 94) (v := .ref (t + 18)) hx (hd 48) fl_3_20 ht rfl (by decide) rfl ?_
        have h27 := hL.1 _ _ _ ht 2 18 20 15 rfl
        refine r_iload (pc' := 96) hx (hd 49) 3 rfl rfl ?_
        refine r_gd (fun h28 => ?_)
        refine r_iald (pc' := 97) (k := ix v8) hx (hd 50) h27 h28 rfl rfl ?_
        refine r_callSN (pc' := 100) (As := [.int (mI M22 (t + 18) (ix v8))]) (rest := [.long ((mJ M22 t 3) &&& (r26 ^^^ (-1))), .ref p3]) hx (hd 51) md_X11_bit mst_X11_bit ml_3_31 (cX11_bit (xl x) w hL (mI M22 (t + 18) (ix v8)) M22) ⟨Nat.le_of_ble_eq_true rfl, Nat.le_of_ble_eq_true rfl⟩ rfl rfl (Nat.le_of_ble_eq_true rfl) (fun r29 => .long r29 :: [.long ((mJ M22 t 3) &&& (r26 ^^^ (-1))), .ref p3]) (fun _ => M22) (fun _ => ⟨rfl, rfl⟩) rfl (fun r29 _ => ?_)
        refine r_ldc2 (pc' := 103) hx (hd 52) kc_3_35 rfl ?_
        refine r_lxor (pc' := 104) hx (hd 53) rfl ?_
        refine r_land (pc' := 105) hx (hd 54) rfl ?_
        refine r_iconst (pc' := 106) (v := 0) hx (hd 55) (by decide) rfl ?_
        refine r_aload (pc' := 108) hx (hd 56) 2 rfl rfl ?_
        refine r_callVU (pc' := 111) (As := [.long (((mJ M22 t 3) &&& (r26 ^^^ (-1))) &&& (r29 ^^^ (-1))), .int 0, .ref p4]) (rest := []) hx (hd 57) md_X2_take mi_X2_take ms_X2_take ml_3_37 (cX2_take (xl x) w hL p3 hp3 (((mJ M22 t 3) &&& (r26 ^^^ (-1))) &&& (r29 ^^^ (-1))) 0 p4 hp4 M22) hp3 rfl (by decide) ⟨Nat.le_of_ble_eq_true rfl, Nat.le_of_ble_eq_true rfl⟩ rfl rfl (Nat.le_of_ble_eq_true rfl) rfl (fun M30 => ?_)
        refine r_iconst (pc' := 112) (v := 0) hx (hd 58) (by decide) rfl ?_
        refine r_istore (pc' := 114) (L' := [(8, .int 0), (0, .ref t), (3, .ref p3), (4, .ref p4), (5, .int v8), (6, .int v3), (7, .int v9)]) hx (hd 59) (by decide) rfl rfl ?_
        refine r_sub [1, 2, 3, 4, 5, 6, 0] rfl ?_
        refine r_wl2 (fun v31 M32 => [(0, .ref t), (3, .ref p3), (4, .ref p4), (5, .int v8), (6, .int v3), (7, .int v9), (8, .int v31)]) (fun v31 M32 => []) (fun v31 M32 => M32) (fun v31 M32 rec33 ih34 => ?_) fuel 0 M30
        refine r_iload (pc' := 116) hx (hd 60) 6 rfl rfl ?_
        refine r_bipush (pc' := 118) (v := 52) hx (hd 61) (by decide) rfl ?_
        refine r_icmp_ge (tgt := 160) (pc' := 121) hx (hd 62) (by decide) (fun _ => ?_) rfl (fun _ => ?_)
        · skip
          refine r_iinc (pc' := 163) (v := 1) hx (hd 82) 3 rfl (by decide) (by decide) (fun v35 => [(5, .int v35), (0, .ref t), (3, .ref p3), (4, .ref p4), (6, .int v3), (7, .int v9), (8, .int v31)]) (fun _ => rfl) rfl (fun v35 => ?_)
          refine r_iinc (pc' := 166) (v := 1) hx (hd 83) 5 rfl (by decide) (by decide) (fun v36 => [(7, .int v36), (5, .int v35), (0, .ref t), (3, .ref p3), (4, .ref p4), (6, .int v3), (8, .int v31)]) (fun _ => rfl) rfl (fun v36 => ?_)
          refine r_goto (tgt := 24) hx (hd 84) (by decide) ?_
          refine r_sub [2, 3, 4, 1, 5, 0] rfl ?_
          exact ih12 v35 v36 M32
        · skip
          refine r_aload_n (pc' := 122) hx (hd 63) rfl 0 rfl rfl ?_
          refine r_get (pc' := 125) (v := .ref (t + 1)) hx (hd 64) fl_3_11 ht rfl (by decide) rfl ?_
          have h37 := hL.1 _ _ _ ht 0 1 34 15 rfl
          refine r_iload (pc' := 127) hx (hd 65) 3 rfl rfl ?_
          refine r_gd (fun h38 => ?_)
          refine r_aald (pc' := 128) (k := ix v8) hx (hd 66) h37 rfl rfl rfl h38 rfl rfl ?_
          have h39 := hL.2 _ _ _ h37 5 1 1 20 52 rfl (ix v8) (inb_lt h38)
          refine r_iload (pc' := 130) hx (hd 67) 6 rfl rfl ?_
          refine r_aload_n (pc' := 131) hx (hd 68) rfl 0 rfl rfl ?_
          refine r_get (pc' := 134) (v := .long (mJ M32 t 3)) hx (hd 69) fl_3_23 ht rfl (by decide) rfl ?_
          refine r_iload (pc' := 136) hx (hd 70) 6 rfl rfl ?_
          refine r_callSN (pc' := 139) (As := [.long (mJ M32 t 3), .int v31]) (rest := [.int v31, .ref ((t + 1) + 1 + 1 * (ix v8))]) hx (hd 71) md_X11_has mst_X11_has ml_3_43 (cX11_has (xl x) w hL (mJ M32 t 3) v31 M32) ⟨Nat.le_of_ble_eq_true rfl, Nat.le_of_ble_eq_true rfl⟩ rfl rfl (Nat.le_of_ble_eq_true rfl) (fun r40 => .int r40 :: [.int v31, .ref ((t + 1) + 1 + 1 * (ix v8))]) (fun _ => M32) (fun _ => ⟨rfl, rfl⟩) rfl (fun r40 _ => ?_)
          refine r_jn1 153 (fun v41 => [(0, .ref t), (3, .ref p3), (4, .ref p4), (5, .int v8), (6, .int v3), (7, .int v9), (8, .int v31)]) (fun v41 => [.int v41, .int v31, .ref ((t + 1) + 1 + 1 * (ix v8))]) (fun v41 => M32) (fun v41 => ?_) (fun j42 hj43 => ?_)
          · skip
            refine r_gd (fun h45 => ?_)
            refine r_iast (pc' := 154) (k := ix v31) hx (hd 79) h39 h45 rfl rfl (fun M44 => ?_)
            refine r_iinc (pc' := 157) (v := 1) hx (hd 80) 6 rfl (by decide) (by decide) (fun v46 => [(8, .int v46), (0, .ref t), (3, .ref p3), (4, .ref p4), (5, .int v8), (6, .int v3), (7, .int v9)]) (fun _ => rfl) rfl (fun v46 => ?_)
            refine r_goto (tgt := 114) hx (hd 81) (by decide) ?_
            refine r_sub [1, 2, 3, 4, 5, 6, 0] rfl ?_
            exact ih34 v46 M44
          refine r_if_eq (tgt := 146) (pc' := 142) hx (hd 72) (by decide) (fun _ => ?_) rfl (fun _ => ?_)
          · skip
            refine r_aload_n (pc' := 147) hx (hd 75) rfl 1 rfl rfl ?_
            refine r_iload (pc' := 149) hx (hd 76) 6 rfl rfl ?_
            refine r_iconst (pc' := 150) (v := 0) hx (hd 77) (by decide) rfl ?_
            refine r_callV (pc' := 153) (As := [.int v31, .int 0]) (rest := [.int v31, .ref ((t + 1) + 1 + 1 * (ix v8))]) hx (hd 78) md_X2_part mi_X2_part ms_X2_part ml_3_47 (cX2_part (xl x) w hL p3 hp3 v31 0 M32) hp3 rfl (by decide) ⟨Nat.le_of_ble_eq_true rfl, Nat.le_of_ble_eq_true rfl⟩ rfl rfl (Nat.le_of_ble_eq_true rfl) (fun r47 => .int r47 :: [.int v31, .ref ((t + 1) + 1 + 1 * (ix v8))]) (fun _ => M32) (fun _ => ⟨rfl, rfl⟩) rfl (fun r47 _ => ?_)
            exact hj43 r47
          · skip
            refine r_iconst (pc' := 143) (v := (-1)) hx (hd 73) (by decide) rfl ?_
            refine r_goto (tgt := 153) hx (hd 74) (by decide) ?_
            exact hj43 (-1)
abbrev yX11_countFours : MethodName := ({ cls := "CribbageRoom", name := "countFours", desc := "()V" } : Jvm.MethodName)
def tbX11_countFours : List (Nat × Instr × Nat) := [(0, .aload_n 0, 1), (1, .getfield 57, 3), (4, .aload_n 0, 1), (5, .getfield 12, 3), (8, .aload_n 0, 1), (9, .getfield 12, 3), (12, .getfield 110, 3), (15, .aload_n 0, 1), (16, .getfield 12, 3), (19, .getfield 113, 3), (22, .invokevirtual 116, 3), (25, .aload_n 0, 1), (26, .getfield 74, 3), (29, .aload_n 0, 1), (30, .getfield 12, 3), (33, .getfield 138, 3), (36, .aload_n 0, 1), (37, .getfield 67, 3), (40, .aload_n 0, 1), (41, .getfield 57, 3), (44, .invokevirtual 383, 3), (47, .return_, 1)]
theorem dX11_countFours : ∀ q ∈ tbX11_countFours, decode prog_1_method_45_code q.1 = .ok q.2 := by decide +kernel
set_option maxRecDepth 20000 in
theorem cX11_countFours (l : Launch) (w : WX) (hL : Lay w) (t : Nat) (ht : Wat w t 11 0) (M : Mem) : Ct l w yX11_countFours prog_1_method_45_code 1 (Option.none : Option FieldType) 6 156 evU emU [.ref t] M (FX11_countFours t M) := by
  refine ct_of (by decide) (Nat.le_of_ble_eq_true rfl) (fun x hl hx hb hz => ?_)
  subst hl
  have hd : ∀ i, DAt (xc x).code (tbX11_countFours[i]?) := fun i => by rw [hb]; exact dat_of dX11_countFours i
  show C x w (Qn x w evU emU) 1 0 [(0, .ref t)] [] M (FX11_countFours t M)
  unfold FX11_countFours
  refine r_aload_n (pc' := 1) hx (hd 0) rfl 0 rfl rfl ?_
  refine r_get (pc' := 4) (v := .ref (t + 179)) hx (hd 1) fl_11_57 ht rfl (by decide) rfl ?_
  have h1 := hL.1 _ _ _ ht 8 179 10 0 rfl
  refine r_aload_n (pc' := 5) hx (hd 2) rfl 0 rfl rfl ?_
  refine r_get (pc' := 8) (v := .ref (t + 1)) hx (hd 3) fl_11_12 ht rfl (by decide) rfl ?_
  have h2 := hL.1 _ _ _ ht 0 1 6 0 rfl
  refine r_aload_n (pc' := 9) hx (hd 4) rfl 0 rfl rfl ?_
  refine r_get (pc' := 12) (v := .ref (t + 1)) hx (hd 5) fl_11_12 ht rfl (by decide) rfl ?_
  have h3 := hL.1 _ _ _ ht 0 1 6 0 rfl
  refine r_get (pc' := 15) (v := .int (mI M (t + 1) 8)) hx (hd 6) fl_11_110 h3 rfl (by decide) rfl ?_
  refine r_aload_n (pc' := 16) hx (hd 7) rfl 0 rfl rfl ?_
  refine r_get (pc' := 19) (v := .ref (t + 1)) hx (hd 8) fl_11_12 ht rfl (by decide) rfl ?_
  have h4 := hL.1 _ _ _ ht 0 1 6 0 rfl
  refine r_get (pc' := 22) (v := .ref ((t + 1) + 1)) hx (hd 9) fl_11_113 h4 rfl (by decide) rfl ?_
  have h5 := hL.1 _ _ _ h4 0 1 8 0 rfl
  refine r_callVU (pc' := 25) (As := [.ref (t + 1), .int (mI M (t + 1) 8), .ref ((t + 1) + 1)]) (rest := []) hx (hd 10) md_X10_fit mi_X10_fit ms_X10_fit ml_11_116 (cX10_fit (xl x) w hL (t + 179) h1 (t + 1) h2 (mI M (t + 1) 8) ((t + 1) + 1) h5 M) h1 rfl (by decide) ⟨Nat.le_of_ble_eq_true rfl, Nat.le_of_ble_eq_true rfl⟩ rfl rfl (Nat.le_of_ble_eq_true rfl) rfl (fun M6 => ?_)
  refine r_aload_n (pc' := 26) hx (hd 11) rfl 0 rfl rfl ?_
  refine r_get (pc' := 29) (v := .ref (t + 209)) hx (hd 12) fl_11_74 ht rfl (by decide) rfl ?_
  have h7 := hL.1 _ _ _ ht 11 209 3 0 rfl
  refine r_aload_n (pc' := 30) hx (hd 13) rfl 0 rfl rfl ?_
  refine r_get (pc' := 33) (v := .ref (t + 1)) hx (hd 14) fl_11_12 ht rfl (by decide) rfl ?_
  have h8 := hL.1 _ _ _ ht 0 1 6 0 rfl
  refine r_get (pc' := 36) (v := .long (mJ M6 (t + 1) 5)) hx (hd 15) fl_11_138 h8 rfl (by decide) rfl ?_
  refine r_aload_n (pc' := 37) hx (hd 16) rfl 0 rfl rfl ?_
  refine r_get (pc' := 40) (v := .ref (t + 203)) hx (hd 17) fl_11_67 ht rfl (by decide) rfl ?_
  have h9 := hL.1 _ _ _ ht 10 203 2 0 rfl
  refine r_aload_n (pc' := 41) hx (hd 18) rfl 0 rfl rfl ?_
  refine r_get (pc' := 44) (v := .ref (t + 179)) hx (hd 19) fl_11_57 ht rfl (by decide) rfl ?_
  have h10 := hL.1 _ _ _ ht 8 179 10 0 rfl
  refine r_callVU (pc' := 47) (As := [.long (mJ M6 (t + 1) 5), .ref (t + 203), .ref (t + 179)]) (rest := []) hx (hd 20) md_X3_countAll mi_X3_countAll ms_X3_countAll ml_11_383 (cX3_countAll (xl x) w hL (t + 209) h7 (mJ M6 (t + 1) 5) (t + 203) h9 (t + 179) h10 M6) h7 rfl (by decide) ⟨Nat.le_of_ble_eq_true rfl, Nat.le_of_ble_eq_true rfl⟩ rfl rfl (Nat.le_of_ble_eq_true rfl) rfl (fun M11 => ?_)
  exact r_vret hx (hd 21) rfl rfl hz
abbrev yX3_together : MethodName := ({ cls := "CribbageRoom$Fours", name := "together", desc := "(I)I" } : Jvm.MethodName)
def tbX3_together : List (Nat × Instr × Nat) := [(0, .iconst 0, 1), (1, .istore_n 2, 1), (2, .iconst 0, 1), (3, .istore_n 3, 1), (4, .iload_n 3, 1), (5, .bipush 52, 2), (7, .if_icmp .ge 34, 3), (10, .iload_n 1, 1), (11, .ifCond .lt 30, 3), (14, .iload_n 1, 1), (15, .bipush 15, 2), (17, .if_icmp .ge 24, 3), (20, .iload_n 2, 1), (21, .iconst 0, 1), (22, .aload_n 0, 1), (23, .getfield 11, 3), (26, .iload_n 1, 1), (27, .aaload, 1), (28, .iload_n 3, 1), (29, .iaload, 1), (30, .invokestatic 51, 3), (33, .iadd, 1), (34, .istore_n 2, 1), (35, .iinc 3 1, 3), (38, .goto (-34), 3), (41, .iload_n 2, 1), (42, .ireturn, 1)]
theorem dX3_together : ∀ q ∈ tbX3_together, decode prog_5_method_5_code q.1 = .ok q.2 := by decide +kernel
set_option maxRecDepth 20000 in
theorem cX3_together (l : Launch) (w : WX) (hL : Lay w) (t : Nat) (ht : Wat w t 3 0) (p1 : Int32) (M : Mem) : Ct l w yX3_together prog_5_method_5_code 4 (Option.some FieldType.int) 1 30 evI (emC M) [.ref t, .int p1] M (FX3_together t p1 M) := by
  refine ct_of (by decide) (Nat.le_of_ble_eq_true rfl) (fun x hl hx hb hz => ?_)
  subst hl
  have hd : ∀ i, DAt (xc x).code (tbX3_together[i]?) := fun i => by rw [hb]; exact dat_of dX3_together i
  show C x w (Qn x w evI (emC M)) 4 0 [(0, .ref t), (1, .int p1)] [] M (FX3_together t p1 M)
  unfold FX3_together
  refine r_iconst (pc' := 1) (v := 0) hx (hd 0) (by decide) rfl ?_
  refine r_istore_n (pc' := 2) (L' := [(2, .int 0), (0, .ref t), (1, .int p1)]) hx (hd 1) rfl (by decide) rfl rfl ?_
  refine r_iconst (pc' := 3) (v := 0) hx (hd 2) (by decide) rfl ?_
  refine r_istore_n (pc' := 4) (L' := [(3, .int 0), (2, .int 0), (0, .ref t), (1, .int p1)]) hx (hd 3) rfl (by decide) rfl rfl ?_
  refine r_sub [2, 3, 1, 0] rfl ?_
  refine r_wl2 (fun v1 v2 => [(0, .ref t), (1, .int p1), (2, .int v1), (3, .int v2)]) (fun v1 v2 => []) (fun v1 v2 => M) (fun v1 v2 rec3 ih4 => ?_) fuel 0 0
  refine r_iload_n (pc' := 5) hx (hd 4) rfl 3 rfl rfl ?_
  refine r_bipush (pc' := 7) (v := 52) hx (hd 5) (by decide) rfl ?_
  refine r_jn0 41 ([(2, .int v1)]) ([]) (M) (?_) (fun j5 hj6 => ?_)
  · skip
    refine r_iload_n (pc' := 42) hx (hd 25) rfl 0 rfl rfl ?_
    exact r_iret hx (hd 26) rfl rfl hz
  refine r_icmp_ge (tgt := 41) (pc' := 10) hx (hd 6) (by decide) (fun _ => ?_) rfl (fun _ => ?_)
  · skip
    refine r_sub [2] rfl ?_
    exact hj6
  · skip
    refine r_iload_n (pc' := 11) hx (hd 7) rfl 1 rfl rfl ?_
    refine r_if_lt (tgt := 41) (pc' := 14) hx (hd 8) (by decide) (fun _ => ?_) rfl (fun _ => ?_)
    · skip
      refine r_sub [2] rfl ?_
      exact hj6
    · skip
      refine r_iload_n (pc' := 15) hx (hd 9) rfl 1 rfl rfl ?_
      refine r_bipush (pc' := 17) (v := 15) hx (hd 10) (by decide) rfl ?_
      refine r_icmp_ge (tgt := 41) (pc' := 20) hx (hd 11) (by decide) (fun _ => ?_) rfl (fun _ => ?_)
      · skip
        refine r_sub [2] rfl ?_
        exact hj6
      · skip
        refine r_iload_n (pc' := 21) hx (hd 12) rfl 2 rfl rfl ?_
        refine r_iconst (pc' := 22) (v := 0) hx (hd 13) (by decide) rfl ?_
        refine r_aload_n (pc' := 23) hx (hd 14) rfl 0 rfl rfl ?_
        refine r_get (pc' := 26) (v := .ref (t + 1)) hx (hd 15) fl_3_11 ht rfl (by decide) rfl ?_
        have h7 := hL.1 _ _ _ ht 0 1 34 15 rfl
        refine r_iload_n (pc' := 27) hx (hd 16) rfl 1 rfl rfl ?_
        refine r_gd (fun h8 => ?_)
        refine r_aald (pc' := 28) (k := ix p1) hx (hd 17) h7 rfl rfl rfl h8 rfl rfl ?_
        have h9 := hL.2 _ _ _ h7 5 1 1 20 52 rfl (ix p1) (inb_lt h8)
        refine r_iload_n (pc' := 29) hx (hd 18) rfl 3 rfl rfl ?_
        refine r_gd (fun h10 => ?_)
        refine r_iald (pc' := 30) (k := ix v2) hx (hd 19) h9 h10 rfl rfl ?_
        refine r_mmax (pc' := 33) hx (hd 20) ml_3_51 ⟨Nat.le_of_ble_eq_true rfl, Nat.le_of_ble_eq_true rfl⟩ (Nat.le_of_ble_eq_true rfl) rfl ?_
        refine r_iadd (pc' := 34) hx (hd 21) rfl ?_
        refine r_nmI (fun v11 => ?_)
        refine r_istore_n (pc' := 35) (L' := [(2, .int v11), (0, .ref t), (1, .int p1), (3, .int v2)]) hx (hd 22) rfl (by decide) rfl rfl ?_
        refine r_iinc (pc' := 38) (v := 1) hx (hd 23) 3 rfl (by decide) (by decide) (fun v12 => [(3, .int v12), (2, .int v11), (0, .ref t), (1, .int p1)]) (fun _ => rfl) rfl (fun v12 => ?_)
        refine r_goto (tgt := 4) hx (hd 24) (by decide) ?_
        refine r_sub [2, 3, 1, 0] rfl ?_
        exact ih4 v11 v12
abbrev yX3_dearest : MethodName := ({ cls := "CribbageRoom$Fours", name := "dearest", desc := "()I" } : Jvm.MethodName)
def tbX3_dearest : List (Nat × Instr × Nat) := [(0, .iconst 0, 1), (1, .istore_n 1, 1), (2, .iconst 1, 1), (3, .istore_n 2, 1), (4, .iload_n 2, 1), (5, .bipush 15, 2), (7, .if_icmp .ge 24, 3), (10, .aload_n 0, 1), (11, .iload_n 2, 1), (12, .invokevirtual 56, 3), (15, .aload_n 0, 1), (16, .iload_n 1, 1), (17, .invokevirtual 56, 3), (20, .if_icmp .le 5, 3), (23, .iload_n 2, 1), (24, .istore_n 1, 1), (25, .iinc 2 1, 3), (28, .goto (-24), 3), (31, .iload_n 1, 1), (32, .ireturn, 1)]
theorem dX3_dearest : ∀ q ∈ tbX3_dearest, decode prog_5_method_6_code q.1 = .ok q.2 := by decide +kernel
set_option maxRecDepth 20000 in
theorem cX3_dearest (l : Launch) (w : WX) (hL : Lay w) (t : Nat) (ht : Wat w t 3 0) (M : Mem) : Ct l w yX3_dearest prog_5_method_6_code 3 (Option.some FieldType.int) 2 53 evI (emC M) [.ref t] M (FX3_dearest t M) := by
  refine ct_of (by decide) (Nat.le_of_ble_eq_true rfl) (fun x hl hx hb hz => ?_)
  subst hl
  have hd : ∀ i, DAt (xc x).code (tbX3_dearest[i]?) := fun i => by rw [hb]; exact dat_of dX3_dearest i
  show C x w (Qn x w evI (emC M)) 3 0 [(0, .ref t)] [] M (FX3_dearest t M)
  unfold FX3_dearest
  refine r_iconst (pc' := 1) (v := 0) hx (hd 0) (by decide) rfl ?_
  refine r_istore_n (pc' := 2) (L' := [(1, .int 0), (0, .ref t)]) hx (hd 1) rfl (by decide) rfl rfl ?_
  refine r_iconst (pc' := 3) (v := 1) hx (hd 2) (by decide) rfl ?_
  refine r_istore_n (pc' := 4) (L' := [(2, .int 1), (1, .int 0), (0, .ref t)]) hx (hd 3) rfl (by decide) rfl rfl ?_
  refine r_sub [2, 1, 0] rfl ?_
  refine r_wl2 (fun v1 v2 => [(0, .ref t), (1, .int v1), (2, .int v2)]) (fun v1 v2 => []) (fun v1 v2 => M) (fun v1 v2 rec3 ih4 => ?_) fuel 0 1
  refine r_iload_n (pc' := 5) hx (hd 4) rfl 2 rfl rfl ?_
  refine r_bipush (pc' := 7) (v := 15) hx (hd 5) (by decide) rfl ?_
  refine r_icmp_ge (tgt := 31) (pc' := 10) hx (hd 6) (by decide) (fun _ => ?_) rfl (fun _ => ?_)
  · skip
    refine r_iload_n (pc' := 32) hx (hd 18) rfl 1 rfl rfl ?_
    exact r_iret hx (hd 19) rfl rfl hz
  · skip
    refine r_aload_n (pc' := 11) hx (hd 7) rfl 0 rfl rfl ?_
    refine r_iload_n (pc' := 12) hx (hd 8) rfl 2 rfl rfl ?_
    refine r_callV (pc' := 15) (As := [.int v2]) (rest := []) hx (hd 9) md_X3_together mi_X3_together ms_X3_together ml_3_56 (cX3_together (xl x) w hL t ht v2 M) ht rfl (by decide) ⟨Nat.le_of_ble_eq_true rfl, Nat.le_of_ble_eq_true rfl⟩ rfl rfl (Nat.le_of_ble_eq_true rfl) (fun r5 => .int r5 :: []) (fun _ => M) (fun _ => ⟨rfl, rfl⟩) rfl (fun r5 _ => ?_)
    refine r_aload_n (pc' := 16) hx (hd 10) rfl 0 rfl rfl ?_
    refine r_iload_n (pc' := 17) hx (hd 11) rfl 1 rfl rfl ?_
    refine r_callV (pc' := 20) (As := [.int v1]) (rest := [.int r5]) hx (hd 12) md_X3_together mi_X3_together ms_X3_together ml_3_56 (cX3_together (xl x) w hL t ht v1 M) ht rfl (by decide) ⟨Nat.le_of_ble_eq_true rfl, Nat.le_of_ble_eq_true rfl⟩ rfl rfl (Nat.le_of_ble_eq_true rfl) (fun r6 => .int r6 :: [.int r5]) (fun _ => M) (fun _ => ⟨rfl, rfl⟩) rfl (fun r6 _ => ?_)
    refine r_jn1 25 (fun v7 => [(0, .ref t), (1, .int v7), (2, .int v2)]) (fun v7 => []) (fun v7 => M) (fun v7 => ?_) (fun j8 hj9 => ?_)
    · skip
      refine r_iinc (pc' := 28) (v := 1) hx (hd 16) 2 rfl (by decide) (by decide) (fun v10 => [(2, .int v10), (0, .ref t), (1, .int v7)]) (fun _ => rfl) rfl (fun v10 => ?_)
      refine r_goto (tgt := 4) hx (hd 17) (by decide) ?_
      refine r_sub [1, 2, 0] rfl ?_
      exact ih4 v7 v10
    refine r_icmp_le (tgt := 25) (pc' := 23) hx (hd 13) (by decide) (fun _ => ?_) rfl (fun _ => ?_)
    · skip
      exact hj9 v1
    · skip
      refine r_iload_n (pc' := 24) hx (hd 14) rfl 2 rfl rfl ?_
      refine r_istore_n (pc' := 25) (L' := [(1, .int v2), (0, .ref t), (2, .int v2)]) hx (hd 15) rfl (by decide) rfl rfl ?_
      refine r_sub [1, 0, 2] rfl ?_
      exact hj9 v2
abbrev yX3_lowerAway : MethodName := ({ cls := "CribbageRoom$Fours", name := "lowerAway", desc := "(I)I" } : Jvm.MethodName)
def tbX3_lowerAway : List (Nat × Instr × Nat) := [(0, .iload_n 1, 1), (1, .ifCond .lt 18, 3), (4, .iload_n 1, 1), (5, .bipush 15, 2), (7, .if_icmp .ge 12, 3), (10, .aload_n 0, 1), (11, .getfield 16, 3), (14, .iload_n 1, 1), (15, .iaload, 1), (16, .goto 4, 3), (19, .iconst (-1), 1), (20, .ireturn, 1)]
theorem dX3_lowerAway : ∀ q ∈ tbX3_lowerAway, decode prog_5_method_3_code q.1 = .ok q.2 := by decide +kernel
set_option maxRecDepth 20000 in
theorem cX3_lowerAway (l : Launch) (w : WX) (hL : Lay w) (t : Nat) (ht : Wat w t 3 0) (p1 : Int32) (M : Mem) : Ct l w yX3_lowerAway prog_5_method_3_code 2 (Option.some FieldType.int) 0 0 evI (emC M) [.ref t, .int p1] M (FX3_lowerAway t p1 M) := by
  refine ct_of (by decide) (Nat.le_of_ble_eq_true rfl) (fun x hl hx hb hz => ?_)
  subst hl
  have hd : ∀ i, DAt (xc x).code (tbX3_lowerAway[i]?) := fun i => by rw [hb]; exact dat_of dX3_lowerAway i
  show C x w (Qn x w evI (emC M)) 2 0 [(0, .ref t), (1, .int p1)] [] M (FX3_lowerAway t p1 M)
  unfold FX3_lowerAway
  refine r_iload_n (pc' := 1) hx (hd 0) rfl 1 rfl rfl ?_
  refine r_jn1 20 (fun v1 => []) (fun v1 => [.int v1]) (fun v1 => M) (fun v1 => ?_) (fun j2 hj3 => ?_)
  · skip
    exact r_iret hx (hd 11) rfl rfl hz
  refine r_jn0 19 ([]) ([]) (M) (?_) (fun j4 hj5 => ?_)
  · skip
    refine r_iconst (pc' := 20) (v := (-1)) hx (hd 10) (by decide) rfl ?_
    exact hj3 (-1)
  refine r_if_lt (tgt := 19) (pc' := 4) hx (hd 1) (by decide) (fun _ => ?_) rfl (fun _ => ?_)
  · skip
    refine r_sub [] rfl ?_
    exact hj5
  · skip
    refine r_iload_n (pc' := 5) hx (hd 2) rfl 1 rfl rfl ?_
    refine r_bipush (pc' := 7) (v := 15) hx (hd 3) (by decide) rfl ?_
    refine r_icmp_ge (tgt := 19) (pc' := 10) hx (hd 4) (by decide) (fun _ => ?_) rfl (fun _ => ?_)
    · skip
      refine r_sub [] rfl ?_
      exact hj5
    · skip
      refine r_aload_n (pc' := 11) hx (hd 5) rfl 0 rfl rfl ?_
      refine r_get (pc' := 14) (v := .ref (t + 17)) hx (hd 6) fl_3_16 ht rfl (by decide) rfl ?_
      have h6 := hL.1 _ _ _ ht 1 17 20 15 rfl
      refine r_iload_n (pc' := 15) hx (hd 7) rfl 1 rfl rfl ?_
      refine r_gd (fun h7 => ?_)
      refine r_iald (pc' := 16) (k := ix p1) hx (hd 8) h6 h7 rfl rfl ?_
      refine r_goto (tgt := 20) hx (hd 9) (by decide) ?_
      refine r_sub [] rfl ?_
      exact hj3 (mI M (t + 17) (ix p1))
abbrev yX3_higherAway : MethodName := ({ cls := "CribbageRoom$Fours", name := "higherAway", desc := "(I)I" } : Jvm.MethodName)
def tbX3_higherAway : List (Nat × Instr × Nat) := [(0, .iload_n 1, 1), (1, .ifCond .lt 18, 3), (4, .iload_n 1, 1), (5, .bipush 15, 2), (7, .if_icmp .ge 12, 3), (10, .aload_n 0, 1), (11, .getfield 20, 3), (14, .iload_n 1, 1), (15, .iaload, 1), (16, .goto 4, 3), (19, .iconst (-1), 1), (20, .ireturn, 1)]
theorem dX3_higherAway : ∀ q ∈ tbX3_higherAway, decode prog_5_method_4_code q.1 = .ok q.2 := by decide +kernel
set_option maxRecDepth 20000 in
theorem cX3_higherAway (l : Launch) (w : WX) (hL : Lay w) (t : Nat) (ht : Wat w t 3 0) (p1 : Int32) (M : Mem) : Ct l w yX3_higherAway prog_5_method_4_code 2 (Option.some FieldType.int) 0 0 evI (emC M) [.ref t, .int p1] M (FX3_higherAway t p1 M) := by
  refine ct_of (by decide) (Nat.le_of_ble_eq_true rfl) (fun x hl hx hb hz => ?_)
  subst hl
  have hd : ∀ i, DAt (xc x).code (tbX3_higherAway[i]?) := fun i => by rw [hb]; exact dat_of dX3_higherAway i
  show C x w (Qn x w evI (emC M)) 2 0 [(0, .ref t), (1, .int p1)] [] M (FX3_higherAway t p1 M)
  unfold FX3_higherAway
  refine r_iload_n (pc' := 1) hx (hd 0) rfl 1 rfl rfl ?_
  refine r_jn1 20 (fun v1 => []) (fun v1 => [.int v1]) (fun v1 => M) (fun v1 => ?_) (fun j2 hj3 => ?_)
  · skip
    exact r_iret hx (hd 11) rfl rfl hz
  refine r_jn0 19 ([]) ([]) (M) (?_) (fun j4 hj5 => ?_)
  · skip
    refine r_iconst (pc' := 20) (v := (-1)) hx (hd 10) (by decide) rfl ?_
    exact hj3 (-1)
  refine r_if_lt (tgt := 19) (pc' := 4) hx (hd 1) (by decide) (fun _ => ?_) rfl (fun _ => ?_)
  · skip
    refine r_sub [] rfl ?_
    exact hj5
  · skip
    refine r_iload_n (pc' := 5) hx (hd 2) rfl 1 rfl rfl ?_
    refine r_bipush (pc' := 7) (v := 15) hx (hd 3) (by decide) rfl ?_
    refine r_icmp_ge (tgt := 19) (pc' := 10) hx (hd 4) (by decide) (fun _ => ?_) rfl (fun _ => ?_)
    · skip
      refine r_sub [] rfl ?_
      exact hj5
    · skip
      refine r_aload_n (pc' := 11) hx (hd 5) rfl 0 rfl rfl ?_
      refine r_get (pc' := 14) (v := .ref (t + 18)) hx (hd 6) fl_3_20 ht rfl (by decide) rfl ?_
      have h6 := hL.1 _ _ _ ht 2 18 20 15 rfl
      refine r_iload_n (pc' := 15) hx (hd 7) rfl 1 rfl rfl ?_
      refine r_gd (fun h7 => ?_)
      refine r_iald (pc' := 16) (k := ix p1) hx (hd 8) h6 h7 rfl rfl ?_
      refine r_goto (tgt := 20) hx (hd 9) (by decide) ?_
      refine r_sub [] rfl ?_
      exact hj3 (mI M (t + 18) (ix p1))
abbrev yX11_kept : MethodName := ({ cls := "CribbageRoom", name := "kept", desc := "(I)I" } : Jvm.MethodName)
def tbX11_kept : List (Nat × Instr × Nat) := [(0, .aload_n 0, 1), (1, .getfield 12, 3), (4, .getfield 138, 3), (7, .invokestatic 148, 3), (10, .bipush 6, 2), (12, .if_icmp .ne 12, 3), (15, .iload_n 1, 1), (16, .ifCond .lt 8, 3), (19, .iload_n 1, 1), (20, .iconst 2, 1), (21, .if_icmp .le 5, 3), (24, .iconst (-1), 1), (25, .ireturn, 1), (26, .aload_n 0, 1), (27, .invokevirtual 311, 3), (30, .aload_n 0, 1), (31, .getfield 74, 3), (34, .invokevirtual 314, 3), (37, .istore_n 2, 1), (38, .iload_n 1, 1), (39, .ifCond .ne 12, 3), (42, .aload_n 0, 1), (43, .getfield 74, 3), (46, .iload_n 2, 1), (47, .invokevirtual 317, 3), (50, .ireturn, 1), (51, .iload_n 1, 1), (52, .iconst 1, 1), (53, .if_icmp .ne 14, 3), (56, .aload_n 0, 1), (57, .getfield 74, 3), (60, .iload_n 2, 1), (61, .invokevirtual 320, 3), (64, .goto 11, 3), (67, .aload_n 0, 1), (68, .getfield 74, 3), (71, .iload_n 2, 1), (72, .invokevirtual 323, 3), (75, .ireturn, 1)]
theorem dX11_kept : ∀ q ∈ tbX11_kept, decode prog_1_method_24_code q.1 = .ok q.2 := by decide +kernel
set_option maxRecDepth 20000 in
theorem cX11_kept (l : Launch) (w : WX) (hL : Lay w) (t : Nat) (ht : Wat w t 11 0) (p1 : Int32) (M : Mem) : Ct l w yX11_kept prog_1_method_24_code 3 (Option.some FieldType.int) 7 176 evIM emM [.ref t, .int p1] M (FX11_kept t p1 M) := by
  refine ct_of (by decide) (Nat.le_of_ble_eq_true rfl) (fun x hl hx hb hz => ?_)
  subst hl
  have hd : ∀ i, DAt (xc x).code (tbX11_kept[i]?) := fun i => by rw [hb]; exact dat_of dX11_kept i
  show C x w (Qn x w evIM emM) 3 0 [(0, .ref t), (1, .int p1)] [] M (FX11_kept t p1 M)
  unfold FX11_kept
  refine r_aload_n (pc' := 1) hx (hd 0) rfl 0 rfl rfl ?_
  refine r_get (pc' := 4) (v := .ref (t + 1)) hx (hd 1) fl_11_12 ht rfl (by decide) rfl ?_
  have h1 := hL.1 _ _ _ ht 0 1 6 0 rfl
  refine r_get (pc' := 7) (v := .long (mJ M (t + 1) 5)) hx (hd 2) fl_11_138 h1 rfl (by decide) rfl ?_
  refine r_callS (pc' := 10) (As := [.long (mJ M (t + 1) 5)]) (rest := []) hx (hd 3) md_J_Long_bitCount mst_J_Long_bitCount ml_11_148 (cJ_Long_bitCount (xl x) w hL (mJ M (t + 1) 5) M) ⟨Nat.le_of_ble_eq_true rfl, Nat.le_of_ble_eq_true rfl⟩ rfl rfl (Nat.le_of_ble_eq_true rfl) (fun r2 => .int r2 :: []) (fun _ => M) (fun _ => ⟨rfl, rfl⟩) rfl (fun r2 _ => ?_)
  refine r_bipush (pc' := 12) (v := 6) hx (hd 4) (by decide) rfl ?_
  refine r_jn0 24 ([]) ([]) (M) (?_) (fun j3 hj4 => ?_)
  · skip
    refine r_iconst (pc' := 25) (v := (-1)) hx (hd 11) (by decide) rfl ?_
    exact r_iret hx (hd 12) rfl rfl hz
  refine r_icmp_ne (tgt := 24) (pc' := 15) hx (hd 5) (by decide) (fun _ => ?_) rfl (fun _ => ?_)
  · skip
    refine r_sub [] rfl ?_
    exact hj4
  · skip
    refine r_iload_n (pc' := 16) hx (hd 6) rfl 1 rfl rfl ?_
    refine r_if_lt (tgt := 24) (pc' := 19) hx (hd 7) (by decide) (fun _ => ?_) rfl (fun _ => ?_)
    · skip
      refine r_sub [] rfl ?_
      exact hj4
    · skip
      refine r_iload_n (pc' := 20) hx (hd 8) rfl 1 rfl rfl ?_
      refine r_iconst (pc' := 21) (v := 2) hx (hd 9) (by decide) rfl ?_
      refine r_icmp_le (tgt := 26) (pc' := 24) hx (hd 10) (by decide) (fun _ => ?_) rfl (fun _ => ?_)
      · skip
        refine r_aload_n (pc' := 27) hx (hd 13) rfl 0 rfl rfl ?_
        refine r_callVU (pc' := 30) (As := []) (rest := []) hx (hd 14) md_X11_countFours mi_X11_countFours ms_X11_countFours ml_11_311 (cX11_countFours (xl x) w hL t ht M) ht rfl (by decide) ⟨Nat.le_of_ble_eq_true rfl, Nat.le_of_ble_eq_true rfl⟩ rfl rfl (Nat.le_of_ble_eq_true rfl) rfl (fun M5 => ?_)
        refine r_aload_n (pc' := 31) hx (hd 15) rfl 0 rfl rfl ?_
        refine r_get (pc' := 34) (v := .ref (t + 209)) hx (hd 16) fl_11_74 ht rfl (by decide) rfl ?_
        have h6 := hL.1 _ _ _ ht 11 209 3 0 rfl
        refine r_callV (pc' := 37) (As := []) (rest := []) hx (hd 17) md_X3_dearest mi_X3_dearest ms_X3_dearest ml_11_314 (cX3_dearest (xl x) w hL (t + 209) h6 M5) h6 rfl (by decide) ⟨Nat.le_of_ble_eq_true rfl, Nat.le_of_ble_eq_true rfl⟩ rfl rfl (Nat.le_of_ble_eq_true rfl) (fun r7 => .int r7 :: []) (fun _ => M5) (fun _ => ⟨rfl, rfl⟩) rfl (fun r7 _ => ?_)
        refine r_istore_n (pc' := 38) (L' := [(2, .int r7), (0, .ref t), (1, .int p1)]) hx (hd 18) rfl (by decide) rfl rfl ?_
        refine r_iload_n (pc' := 39) hx (hd 19) rfl 2 rfl rfl ?_
        refine r_if_ne (tgt := 51) (pc' := 42) hx (hd 20) (by decide) (fun _ => ?_) rfl (fun _ => ?_)
        · skip
          refine r_iload_n (pc' := 52) hx (hd 26) rfl 2 rfl rfl ?_
          refine r_iconst (pc' := 53) (v := 1) hx (hd 27) (by decide) rfl ?_
          refine r_jn1 75 (fun v8 => []) (fun v8 => [.int v8]) (fun v8 => M5) (fun v8 => ?_) (fun j9 hj10 => ?_)
          · skip
            exact r_iret hx (hd 38) rfl rfl hz
          refine r_icmp_ne (tgt := 67) (pc' := 56) hx (hd 28) (by decide) (fun _ => ?_) rfl (fun _ => ?_)
          · skip
            refine r_aload_n (pc' := 68) hx (hd 34) rfl 1 rfl rfl ?_
            refine r_get (pc' := 71) (v := .ref (t + 209)) hx (hd 35) fl_11_74 ht rfl (by decide) rfl ?_
            have h11 := hL.1 _ _ _ ht 11 209 3 0 rfl
            refine r_iload_n (pc' := 72) hx (hd 36) rfl 0 rfl rfl ?_
            refine r_callV (pc' := 75) (As := [.int r7]) (rest := []) hx (hd 37) md_X3_higherAway mi_X3_higherAway ms_X3_higherAway ml_11_323 (cX3_higherAway (xl x) w hL (t + 209) h11 r7 M5) h11 rfl (by decide) ⟨Nat.le_of_ble_eq_true rfl, Nat.le_of_ble_eq_true rfl⟩ rfl rfl (Nat.le_of_ble_eq_true rfl) (fun r12 => .int r12 :: []) (fun _ => M5) (fun _ => ⟨rfl, rfl⟩) rfl (fun r12 _ => ?_)
            refine r_sub [] rfl ?_
            exact hj10 r12
          · skip
            refine r_aload_n (pc' := 57) hx (hd 29) rfl 1 rfl rfl ?_
            refine r_get (pc' := 60) (v := .ref (t + 209)) hx (hd 30) fl_11_74 ht rfl (by decide) rfl ?_
            have h13 := hL.1 _ _ _ ht 11 209 3 0 rfl
            refine r_iload_n (pc' := 61) hx (hd 31) rfl 0 rfl rfl ?_
            refine r_callV (pc' := 64) (As := [.int r7]) (rest := []) hx (hd 32) md_X3_lowerAway mi_X3_lowerAway ms_X3_lowerAway ml_11_320 (cX3_lowerAway (xl x) w hL (t + 209) h13 r7 M5) h13 rfl (by decide) ⟨Nat.le_of_ble_eq_true rfl, Nat.le_of_ble_eq_true rfl⟩ rfl rfl (Nat.le_of_ble_eq_true rfl) (fun r14 => .int r14 :: []) (fun _ => M5) (fun _ => ⟨rfl, rfl⟩) rfl (fun r14 _ => ?_)
            refine r_goto (tgt := 75) hx (hd 33) (by decide) ?_
            refine r_sub [] rfl ?_
            exact hj10 r14
        · skip
          refine r_aload_n (pc' := 43) hx (hd 21) rfl 1 rfl rfl ?_
          refine r_get (pc' := 46) (v := .ref (t + 209)) hx (hd 22) fl_11_74 ht rfl (by decide) rfl ?_
          have h15 := hL.1 _ _ _ ht 11 209 3 0 rfl
          refine r_iload_n (pc' := 47) hx (hd 23) rfl 0 rfl rfl ?_
          refine r_callV (pc' := 50) (As := [.int r7]) (rest := []) hx (hd 24) md_X3_together mi_X3_together ms_X3_together ml_11_317 (cX3_together (xl x) w hL (t + 209) h15 r7 M5) h15 rfl (by decide) ⟨Nat.le_of_ble_eq_true rfl, Nat.le_of_ble_eq_true rfl⟩ rfl rfl (Nat.le_of_ble_eq_true rfl) (fun r16 => .int r16 :: []) (fun _ => M5) (fun _ => ⟨rfl, rfl⟩) rfl (fun r16 _ => ?_)
          exact r_iret hx (hd 25) rfl rfl hz
      · skip
        refine r_sub [] rfl ?_
        exact hj4
abbrev yJ_Arrays_fill_1 : MethodName := ({ cls := "java/util/Arrays", name := "fill", desc := "([JJ)V" } : Jvm.MethodName)
def tbJ_Arrays_fill_1 : List (Nat × Instr × Nat) := [(0, .iconst 0, 1), (1, .istore_n 3, 1), (2, .aload_n 0, 1), (3, .arraylength, 1), (4, .istore 4, 2), (6, .iload_n 3, 1), (7, .iload 4, 2), (9, .if_icmp .ge 13, 3), (12, .aload_n 0, 1), (13, .iload_n 3, 1), (14, .lload_n 1, 1), (15, .lastore, 1), (16, .iinc 3 1, 3), (19, .goto (-13), 3), (22, .return_, 1)]
theorem dJ_Arrays_fill_1 : ∀ q ∈ tbJ_Arrays_fill_1, decode prog_23_method_101_code q.1 = .ok q.2 := by decide +kernel
set_option maxRecDepth 20000 in
theorem cJ_Arrays_fill_1 (l : Launch) (w : WX) (hL : Lay w) (p0 n0 : Nat) (hp0 : Wat w p0 21 n0) (p1 : Int64) (M : Mem) : Ct l w yJ_Arrays_fill_1 prog_23_method_101_code 5 (Option.none : Option FieldType) 0 0 evU emU [.ref p0, .long p1] M (FJ_Arrays_fill_1 p0 n0 p1 M) := by
  refine ct_of (by decide) (Nat.le_of_ble_eq_true rfl) (fun x hl hx hb hz => ?_)
  subst hl
  have hd : ∀ i, DAt (xc x).code (tbJ_Arrays_fill_1[i]?) := fun i => by rw [hb]; exact dat_of dJ_Arrays_fill_1 i
  show C x w (Qn x w evU emU) 5 0 [(0, .ref p0), (1, .long p1)] [] M (FJ_Arrays_fill_1 p0 n0 p1 M)
  unfold FJ_Arrays_fill_1
  refine r_iconst (pc' := 1) (v := 0) hx (hd 0) (by decide) rfl ?_
  refine r_istore_n (pc' := 2) (L' := [(3, .int 0), (0, .ref p0), (1, .long p1)]) hx (hd 1) rfl (by decide) rfl rfl ?_
  refine r_aload_n (pc' := 3) hx (hd 2) rfl 1 rfl rfl ?_
  refine r_alenJ (pc' := 4) (v := (Int32.ofNat n0)) hx (hd 3) hp0 rfl rfl ?_
  refine r_nmI (fun v1 => ?_)
  refine r_istore (pc' := 6) (L' := [(4, .int v1), (3, .int 0), (0, .ref p0), (1, .long p1)]) hx (hd 4) (by decide) rfl rfl ?_
  refine r_sub [2, 3, 1, 0] rfl ?_
  refine r_wl2 (fun v2 M3 => [(0, .ref p0), (1, .long p1), (3, .int v2), (4, .int v1)]) (fun v2 M3 => []) (fun v2 M3 => M3) (fun v2 M3 rec4 ih5 => ?_) fuel 0 M
  refine r_iload_n (pc' := 7) hx (hd 5) rfl 2 rfl rfl ?_
  refine r_iload (pc' := 9) hx (hd 6) 3 rfl rfl ?_
  refine r_icmp_ge (tgt := 22) (pc' := 12) hx (hd 7) (by decide) (fun _ => ?_) rfl (fun _ => ?_)
  · skip
    exact r_vret hx (hd 14) rfl rfl hz
  · skip
    refine r_aload_n (pc' := 13) hx (hd 8) rfl 0 rfl rfl ?_
    refine r_iload_n (pc' := 14) hx (hd 9) rfl 2 rfl rfl ?_
    refine r_lload_n (pc' := 15) hx (hd 10) rfl 1 rfl rfl ?_
    refine r_gd (fun h7 => ?_)
    refine r_last (pc' := 16) (k := ix v2) hx (hd 11) hp0 h7 rfl rfl (fun M6 => ?_)
    refine r_iinc (pc' := 19) (v := 1) hx (hd 12) 2 rfl (by decide) (by decide) (fun v8 => [(3, .int v8), (0, .ref p0), (1, .long p1), (4, .int v1)]) (fun _ => rfl) rfl (fun v8 => ?_)
    refine r_goto (tgt := 6) hx (hd 13) (by decide) ?_
    refine r_sub [1, 2, 0, 3] rfl ?_
    exact ih5 v8 M6
abbrev yX0_addWays : MethodName := ({ cls := "CribbageRoom$CribSum", name := "addWays", desc := "(I)V" } : Jvm.MethodName)
def tbX0_addWays : List (Nat × Instr × Nat) := [(0, .iconst 3, 1), (1, .istore_n 2, 1), (2, .iload_n 2, 1), (3, .iconst 1, 1), (4, .if_icmp .lt 55, 3), (7, .bipush 31, 2), (9, .istore_n 3, 1), (10, .iload_n 3, 1), (11, .iload_n 1, 1), (12, .if_icmp .lt 41, 3), (15, .iload_n 3, 1), (16, .iconst 1, 1), (17, .if_icmp .lt 36, 3), (20, .aload_n 0, 1), (21, .getfield 11, 3), (24, .iload_n 2, 1), (25, .aaload, 1), (26, .iload_n 3, 1), (27, .dup2, 1), (28, .laload, 1), (29, .aload_n 0, 1), (30, .getfield 11, 3), (33, .iload_n 2, 1), (34, .iconst 1, 1), (35, .isub, 1), (36, .aaload, 1), (37, .iload_n 3, 1), (38, .iconst 0, 1), (39, .iload_n 1, 1), (40, .invokestatic 92, 3), (43, .isub, 1), (44, .laload, 1), (45, .ladd, 1), (46, .lastore, 1), (47, .iinc 3 (-1), 3), (50, .goto (-40), 3), (53, .iinc 2 (-1), 3), (56, .goto (-54), 3), (59, .return_, 1)]
theorem dX0_addWays : ∀ q ∈ tbX0_addWays, decode prog_2_method_4_code q.1 = .ok q.2 := by decide +kernel
set_option maxRecDepth 20000 in
theorem cX0_addWays (l : Launch) (w : WX) (hL : Lay w) (t : Nat) (ht : Wat w t 0 0) (p1 : Int32) (M : Mem) : Ct l w yX0_addWays prog_2_method_4_code 4 (Option.none : Option FieldType) 1 30 evU emU [.ref t, .int p1] M (FX0_addWays t p1 M) := by
  refine ct_of (by decide) (Nat.le_of_ble_eq_true rfl) (fun x hl hx hb hz => ?_)
  subst hl
  have hd : ∀ i, DAt (xc x).code (tbX0_addWays[i]?) := fun i => by rw [hb]; exact dat_of dX0_addWays i
  show C x w (Qn x w evU emU) 4 0 [(0, .ref t), (1, .int p1)] [] M (FX0_addWays t p1 M)
  unfold FX0_addWays
  refine r_iconst (pc' := 1) (v := 3) hx (hd 0) (by decide) rfl ?_
  refine r_istore_n (pc' := 2) (L' := [(2, .int 3), (0, .ref t), (1, .int p1)]) hx (hd 1) rfl (by decide) rfl rfl ?_
  refine r_sub [1, 2, 0] rfl ?_
  refine r_wl2 (fun v1 M2 => [(0, .ref t), (1, .int p1), (2, .int v1)]) (fun v1 M2 => []) (fun v1 M2 => M2) (fun v1 M2 rec3 ih4 => ?_) fuel 3 M
  refine r_iload_n (pc' := 3) hx (hd 2) rfl 2 rfl rfl ?_
  refine r_iconst (pc' := 4) (v := 1) hx (hd 3) (by decide) rfl ?_
  refine r_icmp_lt (tgt := 59) (pc' := 7) hx (hd 4) (by decide) (fun _ => ?_) rfl (fun _ => ?_)
  · skip
    exact r_vret hx (hd 38) rfl rfl hz
  · skip
    refine r_bipush (pc' := 9) (v := 31) hx (hd 5) (by decide) rfl ?_
    refine r_istore_n (pc' := 10) (L' := [(3, .int 31), (0, .ref t), (1, .int p1), (2, .int v1)]) hx (hd 6) rfl (by decide) rfl rfl ?_
    refine r_sub [1, 2, 3, 0] rfl ?_
    refine r_wl2 (fun v5 M6 => [(0, .ref t), (1, .int p1), (2, .int v1), (3, .int v5)]) (fun v5 M6 => []) (fun v5 M6 => M6) (fun v5 M6 rec7 ih8 => ?_) fuel 31 M2
    refine r_iload_n (pc' := 11) hx (hd 7) rfl 3 rfl rfl ?_
    refine r_iload_n (pc' := 12) hx (hd 8) rfl 1 rfl rfl ?_
    refine r_jn0 53 ([(0, .ref t), (1, .int p1), (2, .int v1)]) ([]) (M6) (?_) (fun j9 hj10 => ?_)
    · skip
      refine r_iinc (pc' := 56) (v := (-1)) hx (hd 36) 2 rfl (by decide) (by decide) (fun v11 => [(2, .int v11), (0, .ref t), (1, .int p1)]) (fun _ => rfl) rfl (fun v11 => ?_)
      refine r_goto (tgt := 2) hx (hd 37) (by decide) ?_
      refine r_sub [1, 2, 0] rfl ?_
      exact ih4 v11 M6
    refine r_icmp_lt (tgt := 53) (pc' := 15) hx (hd 9) (by decide) (fun _ => ?_) rfl (fun _ => ?_)
    · skip
      refine r_sub [0, 1, 2] rfl ?_
      exact hj10
    · skip
      refine r_iload_n (pc' := 16) hx (hd 10) rfl 3 rfl rfl ?_
      refine r_iconst (pc' := 17) (v := 1) hx (hd 11) (by decide) rfl ?_
      refine r_icmp_lt (tgt := 53) (pc' := 20) hx (hd 12) (by decide) (fun _ => ?_) rfl (fun _ => ?_)
      · skip
        refine r_sub [0, 1, 2] rfl ?_
        exact hj10
      · skip
        refine r_aload_n (pc' := 21) hx (hd 13) rfl 0 rfl rfl ?_
        refine r_get (pc' := 24) (v := .ref (t + 1)) hx (hd 14) fl_0_11 ht rfl (by decide) rfl ?_
        have h12 := hL.1 _ _ _ ht 0 1 35 4 rfl
        refine r_iload_n (pc' := 25) hx (hd 15) rfl 2 rfl rfl ?_
        refine r_gd (fun h13 => ?_)
        refine r_aald (pc' := 26) (k := ix v1) hx (hd 16) h12 rfl rfl rfl h13 rfl rfl ?_
        have h14 := hL.2 _ _ _ h12 6 1 1 21 32 rfl (ix v1) (inb_lt h13)
        refine r_iload_n (pc' := 27) hx (hd 17) rfl 3 rfl rfl ?_
        refine r_dup2 (pc' := 28) hx (hd 18) rfl rfl rfl ?_
        refine r_gd (fun h15 => ?_)
        refine r_lald (pc' := 29) (k := ix v5) hx (hd 19) h14 h15 rfl rfl ?_
        refine r_aload_n (pc' := 30) hx (hd 20) rfl 0 rfl rfl ?_
        refine r_get (pc' := 33) (v := .ref (t + 1)) hx (hd 21) fl_0_11 ht rfl (by decide) rfl ?_
        have h16 := hL.1 _ _ _ ht 0 1 35 4 rfl
        refine r_iload_n (pc' := 34) hx (hd 22) rfl 2 rfl rfl ?_
        refine r_iconst (pc' := 35) (v := 1) hx (hd 23) (by decide) rfl ?_
        refine r_isub (pc' := 36) hx (hd 24) rfl ?_
        refine r_gd (fun h17 => ?_)
        refine r_aald (pc' := 37) (k := ix (v1 - 1)) hx (hd 25) h16 rfl rfl rfl h17 rfl rfl ?_
        have h18 := hL.2 _ _ _ h16 6 1 1 21 32 rfl (ix (v1 - 1)) (inb_lt h17)
        refine r_iload_n (pc' := 38) hx (hd 26) rfl 3 rfl rfl ?_
        refine r_iconst (pc' := 39) (v := 0) hx (hd 27) (by decide) rfl ?_
        refine r_iload_n (pc' := 40) hx (hd 28) rfl 1 rfl rfl ?_
        refine r_mmax (pc' := 43) hx (hd 29) ml_0_92 ⟨Nat.le_of_ble_eq_true rfl, Nat.le_of_ble_eq_true rfl⟩ (Nat.le_of_ble_eq_true rfl) rfl ?_
        refine r_isub (pc' := 44) hx (hd 30) rfl ?_
        refine r_gd (fun h19 => ?_)
        refine r_lald (pc' := 45) (k := ix (v5 - (imx 0 p1))) hx (hd 31) h18 h19 rfl rfl ?_
        refine r_ladd (pc' := 46) hx (hd 32) rfl ?_
        refine r_gd (fun h21 => ?_)
        refine r_last (pc' := 47) (k := ix v5) hx (hd 33) h14 h21 rfl rfl (fun M20 => ?_)
        refine r_iinc (pc' := 50) (v := (-1)) hx (hd 34) 3 rfl (by decide) (by decide) (fun v22 => [(3, .int v22), (0, .ref t), (1, .int p1), (2, .int v1)]) (fun _ => rfl) rfl (fun v22 => ?_)
        refine r_goto (tgt := 10) hx (hd 35) (by decide) ?_
        refine r_sub [1, 2, 3, 0] rfl ?_
        exact ih8 v22 M20
abbrev yX0_sortFree : MethodName := ({ cls := "CribbageRoom$CribSum", name := "sortFree", desc := "(J)V" } : Jvm.MethodName)
def tbX0_sortFree : List (Nat × Instr × Nat) := [(0, .aload_n 0, 1), (1, .getfield 16, 3), (4, .iconst 0, 1), (5, .invokestatic 69, 3), (8, .aload_n 0, 1), (9, .getfield 20, 3), (12, .iconst 0, 1), (13, .invokestatic 69, 3), (16, .iconst 0, 1), (17, .istore_n 3, 1), (18, .iload_n 3, 1), (19, .iconst 4, 1), (20, .if_icmp .ge 19, 3), (23, .aload_n 0, 1), (24, .getfield 11, 3), (27, .iload_n 3, 1), (28, .aaload, 1), (29, .lconst 0, 1), (30, .invokestatic 75, 3), (33, .iinc 3 1, 3), (36, .goto (-18), 3), (39, .aload_n 0, 1), (40, .getfield 11, 3), (43, .iconst 0, 1), (44, .aaload, 1), (45, .iconst 0, 1), (46, .lconst 1, 1), (47, .lastore, 1), (48, .iconst 0, 1), (49, .istore_n 3, 1), (50, .iload_n 3, 1), (51, .bipush 52, 2), (53, .if_icmp .ge 53, 3), (56, .lload_n 1, 1), (57, .iload_n 3, 1), (58, .invokestatic 78, 3), (61, .ifCond .eq 39, 3), (64, .aload_n 0, 1), (65, .getfield 16, 3), (68, .iload_n 3, 1), (69, .iconst 4, 1), (70, .idiv, 1), (71, .dup2, 1), (72, .iaload, 1), (73, .iconst 1, 1), (74, .iadd, 1), (75, .iastore, 1), (76, .aload_n 0, 1), (77, .getfield 20, 3), (80, .iload_n 3, 1), (81, .iconst 4, 1), (82, .irem, 1), (83, .dup2, 1), (84, .iaload, 1), (85, .iconst 1, 1), (86, .iadd, 1), (87, .iastore, 1), (88, .aload_n 0, 1), (89, .aload_n 0, 1), (90, .getfield 26, 3), (93, .iload_n 3, 1), (94, .invokevirtual 82, 3), (97, .invokevirtual 88, 3), (100, .iinc 3 1, 3), (103, .goto (-53), 3), (106, .return_, 1)]
theorem dX0_sortFree : ∀ q ∈ tbX0_sortFree, decode prog_2_method_3_code q.1 = .ok q.2 := by decide +kernel
set_option maxRecDepth 20000 in
theorem cX0_sortFree (l : Launch) (w : WX) (hL : Lay w) (t : Nat) (ht : Wat w t 0 0) (p1 : Int64) (M : Mem) : Ct l w yX0_sortFree prog_2_method_3_code 4 (Option.none : Option FieldType) 2 53 evU emU [.ref t, .long p1] M (FX0_sortFree t p1 M) := by
  refine ct_of (by decide) (Nat.le_of_ble_eq_true rfl) (fun x hl hx hb hz => ?_)
  subst hl
  have hd : ∀ i, DAt (xc x).code (tbX0_sortFree[i]?) := fun i => by rw [hb]; exact dat_of dX0_sortFree i
  show C x w (Qn x w evU emU) 4 0 [(0, .ref t), (1, .long p1)] [] M (FX0_sortFree t p1 M)
  unfold FX0_sortFree
  refine r_aload_n (pc' := 1) hx (hd 0) rfl 0 rfl rfl ?_
  refine r_get (pc' := 4) (v := .ref (t + 6)) hx (hd 1) fl_0_16 ht rfl (by decide) rfl ?_
  have h1 := hL.1 _ _ _ ht 1 6 20 13 rfl
  refine r_iconst (pc' := 5) (v := 0) hx (hd 2) (by decide) rfl ?_
  refine r_callSU (pc' := 8) (As := [.ref (t + 6), .int 0]) (rest := []) hx (hd 3) md_J_Arrays_fill_0 mst_J_Arrays_fill_0 ml_0_69 (cJ_Arrays_fill_0 (xl x) w hL (t + 6) 13 h1 0 M) ⟨Nat.le_of_ble_eq_true rfl, Nat.le_of_ble_eq_true rfl⟩ rfl rfl (Nat.le_of_ble_eq_true rfl) rfl (fun M2 => ?_)
  refine r_aload_n (pc' := 9) hx (hd 4) rfl 0 rfl rfl ?_
  refine r_get (pc' := 12) (v := .ref (t + 7)) hx (hd 5) fl_0_20 ht rfl (by decide) rfl ?_
  have h3 := hL.1 _ _ _ ht 2 7 20 4 rfl
  refine r_iconst (pc' := 13) (v := 0) hx (hd 6) (by decide) rfl ?_
  refine r_callSU (pc' := 16) (As := [.ref (t + 7), .int 0]) (rest := []) hx (hd 7) md_J_Arrays_fill_0 mst_J_Arrays_fill_0 ml_0_69 (cJ_Arrays_fill_0 (xl x) w hL (t + 7) 4 h3 0 M2) ⟨Nat.le_of_ble_eq_true rfl, Nat.le_of_ble_eq_true rfl⟩ rfl rfl (Nat.le_of_ble_eq_true rfl) rfl (fun M4 => ?_)
  refine r_iconst (pc' := 17) (v := 0) hx (hd 8) (by decide) rfl ?_
  refine r_istore_n (pc' := 18) (L' := [(3, .int 0), (0, .ref t), (1, .long p1)]) hx (hd 9) rfl (by decide) rfl rfl ?_
  refine r_sub [1, 2, 0] rfl ?_
  refine r_wl2 (fun v5 M6 => [(0, .ref t), (1, .long p1), (3, .int v5)]) (fun v5 M6 => []) (fun v5 M6 => M6) (fun v5 M6 rec7 ih8 => ?_) fuel 0 M4
  refine r_iload_n (pc' := 19) hx (hd 10) rfl 2 rfl rfl ?_
  refine r_iconst (pc' := 20) (v := 4) hx (hd 11) (by decide) rfl ?_
  refine r_icmp_ge (tgt := 39) (pc' := 23) hx (hd 12) (by decide) (fun _ => ?_) rfl (fun _ => ?_)
  · skip
    refine r_aload_n (pc' := 40) hx (hd 21) rfl 0 rfl rfl ?_
    refine r_get (pc' := 43) (v := .ref (t + 1)) hx (hd 22) fl_0_11 ht rfl (by decide) rfl ?_
    have h9 := hL.1 _ _ _ ht 0 1 35 4 rfl
    refine r_iconst (pc' := 44) (v := 0) hx (hd 23) (by decide) rfl ?_
    refine r_aald (pc' := 45) (k := 0) hx (hd 24) h9 rfl rfl rfl (by decide) (by decide) rfl ?_
    have h10 := hL.2 _ _ _ h9 6 1 1 21 32 rfl (0) (by decide)
    refine r_iconst (pc' := 46) (v := 0) hx (hd 25) (by decide) rfl ?_
    refine r_lconst (pc' := 47) (v := 1) hx (hd 26) (by decide) rfl ?_
    refine r_last (pc' := 48) (k := 0) hx (hd 27) h10 (by decide) (by decide) rfl (fun M11 => ?_)
    refine r_iconst (pc' := 49) (v := 0) hx (hd 28) (by decide) rfl ?_
    refine r_istore_n (pc' := 50) (L' := [(3, .int 0), (0, .ref t), (1, .long p1)]) hx (hd 29) rfl (by decide) rfl rfl ?_
    refine r_sub [1, 2, 0] rfl ?_
    refine r_wl2 (fun v12 M13 => [(0, .ref t), (1, .long p1), (3, .int v12)]) (fun v12 M13 => []) (fun v12 M13 => M13) (fun v12 M13 rec14 ih15 => ?_) fuel 0 M11
    refine r_iload_n (pc' := 51) hx (hd 30) rfl 2 rfl rfl ?_
    refine r_bipush (pc' := 53) (v := 52) hx (hd 31) (by decide) rfl ?_
    refine r_icmp_ge (tgt := 106) (pc' := 56) hx (hd 32) (by decide) (fun _ => ?_) rfl (fun _ => ?_)
    · skip
      exact r_vret hx (hd 65) rfl rfl hz
    · skip
      refine r_lload_n (pc' := 57) hx (hd 33) rfl 1 rfl rfl ?_
      refine r_iload_n (pc' := 58) hx (hd 34) rfl 2 rfl rfl ?_
      refine r_callSN (pc' := 61) (As := [.long p1, .int v12]) (rest := []) hx (hd 35) md_X11_has mst_X11_has ml_0_78 (cX11_has (xl x) w hL p1 v12 M13) ⟨Nat.le_of_ble_eq_true rfl, Nat.le_of_ble_eq_true rfl⟩ rfl rfl (Nat.le_of_ble_eq_true rfl) (fun r16 => .int r16 :: []) (fun _ => M13) (fun _ => ⟨rfl, rfl⟩) rfl (fun r16 _ => ?_)
      refine r_jn1 100 (fun M17 => [(0, .ref t), (1, .long p1), (3, .int v12)]) (fun M17 => []) (fun M17 => M17) (fun M17 => ?_) (fun j18 hj19 => ?_)
      · skip
        refine r_iinc (pc' := 103) (v := 1) hx (hd 63) 2 rfl (by decide) (by decide) (fun v20 => [(3, .int v20), (0, .ref t), (1, .long p1)]) (fun _ => rfl) rfl (fun v20 => ?_)
        refine r_goto (tgt := 50) hx (hd 64) (by decide) ?_
        refine r_sub [1, 2, 0] rfl ?_
        exact ih15 v20 M17
      refine r_if_eq (tgt := 100) (pc' := 64) hx (hd 36) (by decide) (fun _ => ?_) rfl (fun _ => ?_)
      · skip
        exact hj19 M13
      · skip
        refine r_aload_n (pc' := 65) hx (hd 37) rfl 0 rfl rfl ?_
        refine r_get (pc' := 68) (v := .ref (t + 6)) hx (hd 38) fl_0_16 ht rfl (by decide) rfl ?_
        have h21 := hL.1 _ _ _ ht 1 6 20 13 rfl
        refine r_iload_n (pc' := 69) hx (hd 39) rfl 2 rfl rfl ?_
        refine r_iconst (pc' := 70) (v := 4) hx (hd 40) (by decide) rfl ?_
        refine r_idiv (pc' := 71) hx (hd 41) (by decide) rfl ?_
        refine r_dup2 (pc' := 72) hx (hd 42) rfl rfl rfl ?_
        refine r_gd (fun h22 => ?_)
        refine r_iald (pc' := 73) (k := ix (v12 / 4)) hx (hd 43) h21 h22 rfl rfl ?_
        refine r_iconst (pc' := 74) (v := 1) hx (hd 44) (by decide) rfl ?_
        refine r_iadd (pc' := 75) hx (hd 45) rfl ?_
        refine r_gd (fun h24 => ?_)
        refine r_iast (pc' := 76) (k := ix (v12 / 4)) hx (hd 46) h21 h24 rfl rfl (fun M23 => ?_)
        refine r_aload_n (pc' := 77) hx (hd 47) rfl 0 rfl rfl ?_
        refine r_get (pc' := 80) (v := .ref (t + 7)) hx (hd 48) fl_0_20 ht rfl (by decide) rfl ?_
        have h25 := hL.1 _ _ _ ht 2 7 20 4 rfl
        refine r_iload_n (pc' := 81) hx (hd 49) rfl 2 rfl rfl ?_
        refine r_iconst (pc' := 82) (v := 4) hx (hd 50) (by decide) rfl ?_
        refine r_irem (pc' := 83) hx (hd 51) (by decide) rfl ?_
        refine r_dup2 (pc' := 84) hx (hd 52) rfl rfl rfl ?_
        refine r_gd (fun h26 => ?_)
        refine r_iald (pc' := 85) (k := ix (irm v12 4)) hx (hd 53) h25 h26 rfl rfl ?_
        refine r_iconst (pc' := 86) (v := 1) hx (hd 54) (by decide) rfl ?_
        refine r_iadd (pc' := 87) hx (hd 55) rfl ?_
        refine r_gd (fun h28 => ?_)
        refine r_iast (pc' := 88) (k := ix (irm v12 4)) hx (hd 56) h25 h28 rfl rfl (fun M27 => ?_)
        refine r_aload_n (pc' := 89) hx (hd 57) rfl 0 rfl rfl ?_
        refine r_aload_n (pc' := 90) hx (hd 58) rfl 0 rfl rfl ?_
        refine r_get (pc' := 93) (v := va_rf (mR M27 t 4)) hx (hd 59) fl_0_26 ht rfl (by decide) rfl ?_
        refine r_wt (fun wt31 => ?_)
        refine r_nmR (fun v29 hn30 => ?_)
        refine r_iload_n (pc' := 94) hx (hd 60) rfl 2 rfl rfl ?_
        refine r_bd (fun b32 e33 => ?_)
        have h34 := (fun b hb => wt31 _ _ _ ht 4 10 b rfl (hn30 ▸ hb)) b32 e33
        subst e33
        refine r_callV (pc' := 97) (As := [.int v12]) (rest := [.ref t]) hx (hd 61) md_X10_valueOf mi_X10_valueOf ms_X10_valueOf ml_0_82 (cX10_valueOf (xl x) w hL b32 h34 v12 M27) h34 rfl (by decide) ⟨Nat.le_of_ble_eq_true rfl, Nat.le_of_ble_eq_true rfl⟩ rfl rfl (Nat.le_of_ble_eq_true rfl) (fun r35 => .int r35 :: [.ref t]) (fun _ => M27) (fun _ => ⟨rfl, rfl⟩) rfl (fun r35 _ => ?_)
        refine r_callVU (pc' := 100) (As := [.int r35]) (rest := []) hx (hd 62) md_X0_addWays mi_X0_addWays ms_X0_addWays ml_0_88 (cX0_addWays (xl x) w hL t ht r35 M27) ht rfl (by decide) ⟨Nat.le_of_ble_eq_true rfl, Nat.le_of_ble_eq_true rfl⟩ rfl rfl (Nat.le_of_ble_eq_true rfl) rfl (fun M36 => ?_)
        exact hj19 M36
  · skip
    refine r_aload_n (pc' := 24) hx (hd 13) rfl 0 rfl rfl ?_
    refine r_get (pc' := 27) (v := .ref (t + 1)) hx (hd 14) fl_0_11 ht rfl (by decide) rfl ?_
    have h37 := hL.1 _ _ _ ht 0 1 35 4 rfl
    refine r_iload_n (pc' := 28) hx (hd 15) rfl 2 rfl rfl ?_
    refine r_gd (fun h38 => ?_)
    refine r_aald (pc' := 29) (k := ix v5) hx (hd 16) h37 rfl rfl rfl h38 rfl rfl ?_
    have h39 := hL.2 _ _ _ h37 6 1 1 21 32 rfl (ix v5) (inb_lt h38)
    refine r_lconst (pc' := 30) (v := 0) hx (hd 17) (by decide) rfl ?_
    refine r_callSU (pc' := 33) (As := [.ref ((t + 1) + 1 + 1 * (ix v5)), .long 0]) (rest := []) hx (hd 18) md_J_Arrays_fill_1 mst_J_Arrays_fill_1 ml_0_75 (cJ_Arrays_fill_1 (xl x) w hL ((t + 1) + 1 + 1 * (ix v5)) 32 h39 0 M6) ⟨Nat.le_of_ble_eq_true rfl, Nat.le_of_ble_eq_true rfl⟩ rfl rfl (Nat.le_of_ble_eq_true rfl) rfl (fun M40 => ?_)
    refine r_iinc (pc' := 36) (v := 1) hx (hd 19) 2 rfl (by decide) (by decide) (fun v41 => [(3, .int v41), (0, .ref t), (1, .long p1)]) (fun _ => rfl) rfl (fun v41 => ?_)
    refine r_goto (tgt := 18) hx (hd 20) (by decide) ?_
    refine r_sub [1, 2, 0] rfl ?_
    exact ih8 v41 M40
abbrev yX0_choose : MethodName := ({ cls := "CribbageRoom$CribSum", name := "choose", desc := "(JI)J" } : Jvm.MethodName)
def tbX0_choose : List (Nat × Instr × Nat) := [(0, .lconst 1, 1), (1, .lstore_n 3, 1), (2, .iconst 0, 1), (3, .istore 5, 2), (5, .iload 5, 2), (7, .iload_n 2, 1), (8, .if_icmp .ge 23, 3), (11, .lload_n 3, 1), (12, .lload_n 0, 1), (13, .iload 5, 2), (15, .i2l, 1), (16, .lsub, 1), (17, .lmul, 1), (18, .iload 5, 2), (20, .iconst 1, 1), (21, .iadd, 1), (22, .i2l, 1), (23, .ldiv, 1), (24, .lstore_n 3, 1), (25, .iinc 5 1, 3), (28, .goto (-23), 3), (31, .lload_n 3, 1), (32, .lreturn, 1)]
theorem dX0_choose : ∀ q ∈ tbX0_choose, decode prog_2_method_5_code q.1 = .ok q.2 := by decide +kernel
set_option maxRecDepth 20000 in
theorem cX0_choose (l : Launch) (w : WX) (hL : Lay w) (p0 : Int64) (p2 : Int32) (M : Mem) : Ct l w yX0_choose prog_2_method_5_code 6 (Option.some FieldType.long) 0 0 evJ (emC M) [.long p0, .int p2] M (FX0_choose p0 p2) := by
  refine ct_of (by decide) (Nat.le_of_ble_eq_true rfl) (fun x hl hx hb hz => ?_)
  subst hl
  have hd : ∀ i, DAt (xc x).code (tbX0_choose[i]?) := fun i => by rw [hb]; exact dat_of dX0_choose i
  show C x w (Qn x w evJ (emC M)) 6 0 [(0, .long p0), (2, .int p2)] [] M (FX0_choose p0 p2)
  unfold FX0_choose
  refine r_lconst (pc' := 1) (v := 1) hx (hd 0) (by decide) rfl ?_
  refine r_lstore_n (pc' := 2) (L' := [(3, .long 1), (0, .long p0), (2, .int p2)]) hx (hd 1) rfl (by decide) rfl rfl ?_
  refine r_iconst (pc' := 3) (v := 0) hx (hd 2) (by decide) rfl ?_
  refine r_istore (pc' := 5) (L' := [(5, .int 0), (3, .long 1), (0, .long p0), (2, .int p2)]) hx (hd 3) (by decide) rfl rfl ?_
  refine r_sub [2, 3, 1, 0] rfl ?_
  refine r_wl2 (fun v1 v2 => [(0, .long p0), (2, .int p2), (3, .long v1), (5, .int v2)]) (fun v1 v2 => []) (fun v1 v2 => M) (fun v1 v2 rec3 ih4 => ?_) fuel 1 0
  refine r_iload (pc' := 7) hx (hd 4) 3 rfl rfl ?_
  refine r_iload_n (pc' := 8) hx (hd 5) rfl 1 rfl rfl ?_
  refine r_icmp_ge (tgt := 31) (pc' := 11) hx (hd 6) (by decide) (fun _ => ?_) rfl (fun _ => ?_)
  · skip
    refine r_lload_n (pc' := 32) hx (hd 21) rfl 2 rfl rfl ?_
    exact r_lret hx (hd 22) rfl rfl hz
  · skip
    refine r_lload_n (pc' := 12) hx (hd 7) rfl 2 rfl rfl ?_
    refine r_lload_n (pc' := 13) hx (hd 8) rfl 0 rfl rfl ?_
    refine r_iload (pc' := 15) hx (hd 9) 3 rfl rfl ?_
    refine r_i2l (pc' := 16) hx (hd 10) rfl ?_
    refine r_lsub (pc' := 17) hx (hd 11) rfl ?_
    refine r_lmul (pc' := 18) hx (hd 12) rfl ?_
    refine r_iload (pc' := 20) hx (hd 13) 3 rfl rfl ?_
    refine r_iconst (pc' := 21) (v := 1) hx (hd 14) (by decide) rfl ?_
    refine r_iadd (pc' := 22) hx (hd 15) rfl ?_
    refine r_i2l (pc' := 23) hx (hd 16) rfl ?_
    refine r_gd (fun h5 => ?_)
    refine r_ldiv (pc' := 24) hx (hd 17) (gd_neL h5) rfl ?_
    refine r_nmJ (fun v6 => ?_)
    refine r_lstore_n (pc' := 25) (L' := [(3, .long v6), (0, .long p0), (2, .int p2), (5, .int v2)]) hx (hd 18) rfl (by decide) rfl rfl ?_
    refine r_iinc (pc' := 28) (v := 1) hx (hd 19) 3 rfl (by decide) (by decide) (fun v7 => [(5, .int v7), (3, .long v6), (0, .long p0), (2, .int p2)]) (fun _ => rfl) rfl (fun v7 => ?_)
    refine r_goto (tgt := 5) hx (hd 20) (by decide) ?_
    refine r_sub [2, 3, 1, 0] rfl ?_
    exact ih4 v6 v7
abbrev yX0_fifteensWith : MethodName := ({ cls := "CribbageRoom$CribSum", name := "fifteensWith", desc := "(II)J" } : Jvm.MethodName)
def tbX0_fifteensWith : List (Nat × Instr × Nat) := [(0, .lconst 0, 1), (1, .lstore_n 3, 1), (2, .iconst 0, 1), (3, .iconst 2, 1), (4, .iload_n 1, 1), (5, .isub, 1), (6, .invokestatic 92, 3), (9, .istore 5, 2), (11, .iload 5, 2), (13, .iconst 3, 1), (14, .if_icmp .gt 62, 3), (17, .iload_n 2, 1), (18, .ifCond .lt 58, 3), (21, .iload_n 2, 1), (22, .bipush 31, 2), (24, .if_icmp .gt 52, 3), (27, .lload_n 3, 1), (28, .aload_n 0, 1), (29, .getfield 11, 3), (32, .iload 5, 2), (34, .aaload, 1), (35, .iload_n 2, 1), (36, .laload, 1), (37, .aload_n 0, 1), (38, .getfield 43, 3), (41, .iload 5, 2), (43, .isub, 1), (44, .i2l, 1), (45, .iconst 3, 1), (46, .iload 5, 2), (48, .isub, 1), (49, .invokestatic 105, 3), (52, .lmul, 1), (53, .aload_n 0, 1), (54, .getfield 26, 3), (57, .iconst 1, 1), (58, .iconst 1, 1), (59, .iload_n 1, 1), (60, .iload 5, 2), (62, .iadd, 1), (63, .invokevirtual 109, 3), (66, .i2l, 1), (67, .lmul, 1), (68, .ladd, 1), (69, .lstore_n 3, 1), (70, .iinc 5 1, 3), (73, .goto (-62), 3), (76, .lload_n 3, 1), (77, .lreturn, 1)]
theorem dX0_fifteensWith : ∀ q ∈ tbX0_fifteensWith, decode prog_2_method_7_code q.1 = .ok q.2 := by decide +kernel
set_option maxRecDepth 20000 in
theorem cX0_fifteensWith (l : Launch) (w : WX) (hL : Lay w) (t : Nat) (ht : Wat w t 0 0) (p1 : Int32) (p2 : Int32) (M : Mem) : Ct l w yX0_fifteensWith prog_2_method_7_code 6 (Option.some FieldType.long) 1 30 evJ (emC M) [.ref t, .int p1, .int p2] M (FX0_fifteensWith t p1 p2 M) := by
  refine ct_of (by decide) (Nat.le_of_ble_eq_true rfl) (fun x hl hx hb hz => ?_)
  subst hl
  have hd : ∀ i, DAt (xc x).code (tbX0_fifteensWith[i]?) := fun i => by rw [hb]; exact dat_of dX0_fifteensWith i
  show C x w (Qn x w evJ (emC M)) 6 0 [(0, .ref t), (1, .int p1), (2, .int p2)] [] M (FX0_fifteensWith t p1 p2 M)
  unfold FX0_fifteensWith
  refine r_lconst (pc' := 1) (v := 0) hx (hd 0) (by decide) rfl ?_
  refine r_lstore_n (pc' := 2) (L' := [(3, .long 0), (0, .ref t), (1, .int p1), (2, .int p2)]) hx (hd 1) rfl (by decide) rfl rfl ?_
  refine r_iconst (pc' := 3) (v := 0) hx (hd 2) (by decide) rfl ?_
  refine r_iconst (pc' := 4) (v := 2) hx (hd 3) (by decide) rfl ?_
  refine r_iload_n (pc' := 5) hx (hd 4) rfl 2 rfl rfl ?_
  refine r_isub (pc' := 6) hx (hd 5) rfl ?_
  refine r_mmax (pc' := 9) hx (hd 6) ml_0_92 ⟨Nat.le_of_ble_eq_true rfl, Nat.le_of_ble_eq_true rfl⟩ (Nat.le_of_ble_eq_true rfl) rfl ?_
  refine r_nmI (fun v1 => ?_)
  refine r_istore (pc' := 11) (L' := [(5, .int v1), (3, .long 0), (0, .ref t), (1, .int p1), (2, .int p2)]) hx (hd 7) (by decide) rfl rfl ?_
  refine r_sub [2, 3, 4, 1, 0] rfl ?_
  refine r_wl2 (fun v2 v3 => [(0, .ref t), (1, .int p1), (2, .int p2), (3, .long v2), (5, .int v3)]) (fun v2 v3 => []) (fun v2 v3 => M) (fun v2 v3 rec4 ih5 => ?_) fuel 0 v1
  refine r_iload (pc' := 13) hx (hd 8) 4 rfl rfl ?_
  refine r_iconst (pc' := 14) (v := 3) hx (hd 9) (by decide) rfl ?_
  refine r_jn0 76 ([(3, .long v2)]) ([]) (M) (?_) (fun j6 hj7 => ?_)
  · skip
    refine r_lload_n (pc' := 77) hx (hd 47) rfl 0 rfl rfl ?_
    exact r_lret hx (hd 48) rfl rfl hz
  refine r_icmp_gt (tgt := 76) (pc' := 17) hx (hd 10) (by decide) (fun _ => ?_) rfl (fun _ => ?_)
  · skip
    refine r_sub [3] rfl ?_
    exact hj7
  · skip
    refine r_iload_n (pc' := 18) hx (hd 11) rfl 2 rfl rfl ?_
    refine r_if_lt (tgt := 76) (pc' := 21) hx (hd 12) (by decide) (fun _ => ?_) rfl (fun _ => ?_)
    · skip
      refine r_sub [3] rfl ?_
      exact hj7
    · skip
      refine r_iload_n (pc' := 22) hx (hd 13) rfl 2 rfl rfl ?_
      refine r_bipush (pc' := 24) (v := 31) hx (hd 14) (by decide) rfl ?_
      refine r_icmp_gt (tgt := 76) (pc' := 27) hx (hd 15) (by decide) (fun _ => ?_) rfl (fun _ => ?_)
      · skip
        refine r_sub [3] rfl ?_
        exact hj7
      · skip
        refine r_lload_n (pc' := 28) hx (hd 16) rfl 3 rfl rfl ?_
        refine r_aload_n (pc' := 29) hx (hd 17) rfl 0 rfl rfl ?_
        refine r_get (pc' := 32) (v := .ref (t + 1)) hx (hd 18) fl_0_11 ht rfl (by decide) rfl ?_
        have h8 := hL.1 _ _ _ ht 0 1 35 4 rfl
        refine r_iload (pc' := 34) hx (hd 19) 4 rfl rfl ?_
        refine r_gd (fun h9 => ?_)
        refine r_aald (pc' := 35) (k := ix v3) hx (hd 20) h8 rfl rfl rfl h9 rfl rfl ?_
        have h10 := hL.2 _ _ _ h8 6 1 1 21 32 rfl (ix v3) (inb_lt h9)
        refine r_iload_n (pc' := 36) hx (hd 21) rfl 2 rfl rfl ?_
        refine r_gd (fun h11 => ?_)
        refine r_lald (pc' := 37) (k := ix p2) hx (hd 22) h10 h11 rfl rfl ?_
        refine r_aload_n (pc' := 38) hx (hd 23) rfl 0 rfl rfl ?_
        refine r_get (pc' := 41) (v := .int (mI M t 7)) hx (hd 24) fl_0_43 ht rfl (by decide) rfl ?_
        refine r_iload (pc' := 43) hx (hd 25) 4 rfl rfl ?_
        refine r_isub (pc' := 44) hx (hd 26) rfl ?_
        refine r_i2l (pc' := 45) hx (hd 27) rfl ?_
        refine r_iconst (pc' := 46) (v := 3) hx (hd 28) (by decide) rfl ?_
        refine r_iload (pc' := 48) hx (hd 29) 4 rfl rfl ?_
        refine r_isub (pc' := 49) hx (hd 30) rfl ?_
        refine r_callS (pc' := 52) (As := [.long ((mI M t 7) - v3).toInt64, .int (3 - v3)]) (rest := [.long (mJ M ((t + 1) + 1 + 1 * (ix v3)) (ix p2)), .long v2]) hx (hd 31) md_X0_choose mst_X0_choose ml_0_105 (cX0_choose (xl x) w hL (((mI M t 7) - v3).toInt64) (3 - v3) M) ⟨Nat.le_of_ble_eq_true rfl, Nat.le_of_ble_eq_true rfl⟩ rfl rfl (Nat.le_of_ble_eq_true rfl) (fun r12 => .long r12 :: [.long (mJ M ((t + 1) + 1 + 1 * (ix v3)) (ix p2)), .long v2]) (fun _ => M) (fun _ => ⟨rfl, rfl⟩) rfl (fun r12 _ => ?_)
        refine r_lmul (pc' := 53) hx (hd 32) rfl ?_
        refine r_aload_n (pc' := 54) hx (hd 33) rfl 0 rfl rfl ?_
        refine r_get (pc' := 57) (v := va_rf (mR M t 4)) hx (hd 34) fl_0_26 ht rfl (by decide) rfl ?_
        refine r_wt (fun wt15 => ?_)
        refine r_nmR (fun v13 hn14 => ?_)
        refine r_iconst (pc' := 58) (v := 1) hx (hd 35) (by decide) rfl ?_
        refine r_iconst (pc' := 59) (v := 1) hx (hd 36) (by decide) rfl ?_
        refine r_iload_n (pc' := 60) hx (hd 37) rfl 1 rfl rfl ?_
        refine r_iload (pc' := 62) hx (hd 38) 4 rfl rfl ?_
        refine r_iadd (pc' := 63) hx (hd 39) rfl ?_
        refine r_bd (fun b16 e17 => ?_)
        have h18 := (fun b hb => wt15 _ _ _ ht 4 10 b rfl (hn14 ▸ hb)) b16 e17
        subst e17
        refine r_callV (pc' := 66) (As := [.int 1, .int 1, .int (p1 + v3)]) (rest := [.long ((mJ M ((t + 1) + 1 + 1 * (ix v3)) (ix p2)) * r12), .long v2]) hx (hd 40) md_X10_countOf mi_X10_countOf ms_X10_countOf ml_0_109 (cX10_countOf (xl x) w hL b16 h18 1 1 (p1 + v3) M) h18 rfl (by decide) ⟨Nat.le_of_ble_eq_true rfl, Nat.le_of_ble_eq_true rfl⟩ rfl rfl (Nat.le_of_ble_eq_true rfl) (fun r19 => .int r19 :: [.long ((mJ M ((t + 1) + 1 + 1 * (ix v3)) (ix p2)) * r12), .long v2]) (fun _ => M) (fun _ => ⟨rfl, rfl⟩) rfl (fun r19 _ => ?_)
        refine r_i2l (pc' := 67) hx (hd 41) rfl ?_
        refine r_lmul (pc' := 68) hx (hd 42) rfl ?_
        refine r_ladd (pc' := 69) hx (hd 43) rfl ?_
        refine r_nmJ (fun v20 => ?_)
        refine r_lstore_n (pc' := 70) (L' := [(3, .long v20), (0, .ref t), (1, .int p1), (2, .int p2), (5, .int v3)]) hx (hd 44) rfl (by decide) rfl rfl ?_
        refine r_iinc (pc' := 73) (v := 1) hx (hd 45) 4 rfl (by decide) (by decide) (fun v21 => [(5, .int v21), (3, .long v20), (0, .ref t), (1, .int p1), (2, .int p2)]) (fun _ => rfl) rfl (fun v21 => ?_)
        refine r_goto (tgt := 11) hx (hd 46) (by decide) ?_
        refine r_sub [2, 3, 4, 1, 0] rfl ?_
        exact ih5 v20 v21
abbrev yX0_fifteens : MethodName := ({ cls := "CribbageRoom$CribSum", name := "fifteens", desc := "()J" } : Jvm.MethodName)
def tbX0_fifteens : List (Nat × Instr × Nat) := [(0, .aload_n 0, 1), (1, .getfield 26, 3), (4, .getfield 98, 3), (7, .aload_n 0, 1), (8, .getfield 26, 3), (11, .aload_n 0, 1), (12, .getfield 30, 3), (15, .invokevirtual 82, 3), (18, .isub, 1), (19, .istore_n 1, 1), (20, .aload_n 0, 1), (21, .getfield 26, 3), (24, .getfield 98, 3), (27, .aload_n 0, 1), (28, .getfield 26, 3), (31, .aload_n 0, 1), (32, .getfield 34, 3), (35, .invokevirtual 82, 3), (38, .isub, 1), (39, .istore_n 2, 1), (40, .aload_n 0, 1), (41, .iconst 0, 1), (42, .aload_n 0, 1), (43, .getfield 26, 3), (46, .getfield 98, 3), (49, .invokevirtual 101, 3), (52, .aload_n 0, 1), (53, .iconst 1, 1), (54, .iload_n 1, 1), (55, .invokevirtual 101, 3), (58, .ladd, 1), (59, .aload_n 0, 1), (60, .iconst 1, 1), (61, .iload_n 2, 1), (62, .invokevirtual 101, 3), (65, .ladd, 1), (66, .aload_n 0, 1), (67, .iconst 2, 1), (68, .iload_n 1, 1), (69, .aload_n 0, 1), (70, .getfield 26, 3), (73, .aload_n 0, 1), (74, .getfield 34, 3), (77, .invokevirtual 82, 3), (80, .isub, 1), (81, .invokevirtual 101, 3), (84, .ladd, 1), (85, .lreturn, 1)]
theorem dX0_fifteens : ∀ q ∈ tbX0_fifteens, decode prog_2_method_6_code q.1 = .ok q.2 := by decide +kernel
set_option maxRecDepth 20000 in
theorem cX0_fifteens (l : Launch) (w : WX) (hL : Lay w) (t : Nat) (ht : Wat w t 0 0) (M : Mem) : Ct l w yX0_fifteens prog_2_method_6_code 3 (Option.some FieldType.long) 2 55 evJ (emC M) [.ref t] M (FX0_fifteens t M) := by
  refine ct_of (by decide) (Nat.le_of_ble_eq_true rfl) (fun x hl hx hb hz => ?_)
  subst hl
  have hd : ∀ i, DAt (xc x).code (tbX0_fifteens[i]?) := fun i => by rw [hb]; exact dat_of dX0_fifteens i
  show C x w (Qn x w evJ (emC M)) 3 0 [(0, .ref t)] [] M (FX0_fifteens t M)
  unfold FX0_fifteens
  refine r_aload_n (pc' := 1) hx (hd 0) rfl 0 rfl rfl ?_
  refine r_get (pc' := 4) (v := va_rf (mR M t 4)) hx (hd 1) fl_0_26 ht rfl (by decide) rfl ?_
  refine r_wt (fun wt3 => ?_)
  refine r_nmR (fun v1 hn2 => ?_)
  refine r_bd (fun b4 e5 => ?_)
  have h6 := (fun b hb => wt3 _ _ _ ht 4 10 b rfl (hn2 ▸ hb)) b4 e5
  subst e5
  refine r_get (pc' := 7) (v := .int (mI M b4 4)) hx (hd 2) fl_0_98 h6 rfl (by decide) rfl ?_
  refine r_aload_n (pc' := 8) hx (hd 3) rfl 0 rfl rfl ?_
  refine r_get (pc' := 11) (v := va_rf (mR M t 4)) hx (hd 4) fl_0_26 ht rfl (by decide) rfl ?_
  refine r_wt (fun wt9 => ?_)
  refine r_nmR (fun v7 hn8 => ?_)
  refine r_aload_n (pc' := 12) hx (hd 5) rfl 0 rfl rfl ?_
  refine r_get (pc' := 15) (v := .int (mI M t 5)) hx (hd 6) fl_0_30 ht rfl (by decide) rfl ?_
  refine r_bd (fun b10 e11 => ?_)
  have h12 := (fun b hb => wt9 _ _ _ ht 4 10 b rfl (hn8 ▸ hb)) b10 e11
  subst e11
  refine r_callV (pc' := 18) (As := [.int (mI M t 5)]) (rest := [.int (mI M b4 4)]) hx (hd 7) md_X10_valueOf mi_X10_valueOf ms_X10_valueOf ml_0_82 (cX10_valueOf (xl x) w hL b10 h12 (mI M t 5) M) h12 rfl (by decide) ⟨Nat.le_of_ble_eq_true rfl, Nat.le_of_ble_eq_true rfl⟩ rfl rfl (Nat.le_of_ble_eq_true rfl) (fun r13 => .int r13 :: [.int (mI M b4 4)]) (fun _ => M) (fun _ => ⟨rfl, rfl⟩) rfl (fun r13 _ => ?_)
  refine r_isub (pc' := 19) hx (hd 8) rfl ?_
  refine r_nmI (fun v14 => ?_)
  refine r_istore_n (pc' := 20) (L' := [(1, .int v14), (0, .ref t)]) hx (hd 9) rfl (by decide) rfl rfl ?_
  refine r_aload_n (pc' := 21) hx (hd 10) rfl 1 rfl rfl ?_
  refine r_get (pc' := 24) (v := va_rf (mR M t 4)) hx (hd 11) fl_0_26 ht rfl (by decide) rfl ?_
  refine r_wt (fun wt17 => ?_)
  refine r_nmR (fun v15 hn16 => ?_)
  refine r_bd (fun b18 e19 => ?_)
  have h20 := (fun b hb => wt17 _ _ _ ht 4 10 b rfl (hn16 ▸ hb)) b18 e19
  subst e19
  refine r_get (pc' := 27) (v := .int (mI M b18 4)) hx (hd 12) fl_0_98 h20 rfl (by decide) rfl ?_
  refine r_aload_n (pc' := 28) hx (hd 13) rfl 1 rfl rfl ?_
  refine r_get (pc' := 31) (v := va_rf (mR M t 4)) hx (hd 14) fl_0_26 ht rfl (by decide) rfl ?_
  refine r_wt (fun wt23 => ?_)
  refine r_nmR (fun v21 hn22 => ?_)
  refine r_aload_n (pc' := 32) hx (hd 15) rfl 1 rfl rfl ?_
  refine r_get (pc' := 35) (v := .int (mI M t 6)) hx (hd 16) fl_0_34 ht rfl (by decide) rfl ?_
  refine r_bd (fun b24 e25 => ?_)
  have h26 := (fun b hb => wt23 _ _ _ ht 4 10 b rfl (hn22 ▸ hb)) b24 e25
  subst e25
  refine r_callV (pc' := 38) (As := [.int (mI M t 6)]) (rest := [.int (mI M b18 4)]) hx (hd 17) md_X10_valueOf mi_X10_valueOf ms_X10_valueOf ml_0_82 (cX10_valueOf (xl x) w hL b24 h26 (mI M t 6) M) h26 rfl (by decide) ⟨Nat.le_of_ble_eq_true rfl, Nat.le_of_ble_eq_true rfl⟩ rfl rfl (Nat.le_of_ble_eq_true rfl) (fun r27 => .int r27 :: [.int (mI M b18 4)]) (fun _ => M) (fun _ => ⟨rfl, rfl⟩) rfl (fun r27 _ => ?_)
  refine r_isub (pc' := 39) hx (hd 18) rfl ?_
  refine r_nmI (fun v28 => ?_)
  refine r_istore_n (pc' := 40) (L' := [(2, .int v28), (1, .int v14), (0, .ref t)]) hx (hd 19) rfl (by decide) rfl rfl ?_
  refine r_aload_n (pc' := 41) hx (hd 20) rfl 2 rfl rfl ?_
  refine r_iconst (pc' := 42) (v := 0) hx (hd 21) (by decide) rfl ?_
  refine r_aload_n (pc' := 43) hx (hd 22) rfl 2 rfl rfl ?_
  refine r_get (pc' := 46) (v := va_rf (mR M t 4)) hx (hd 23) fl_0_26 ht rfl (by decide) rfl ?_
  refine r_wt (fun wt31 => ?_)
  refine r_nmR (fun v29 hn30 => ?_)
  refine r_bd (fun b32 e33 => ?_)
  have h34 := (fun b hb => wt31 _ _ _ ht 4 10 b rfl (hn30 ▸ hb)) b32 e33
  subst e33
  refine r_get (pc' := 49) (v := .int (mI M b32 4)) hx (hd 24) fl_0_98 h34 rfl (by decide) rfl ?_
  refine r_callV (pc' := 52) (As := [.int 0, .int (mI M b32 4)]) (rest := []) hx (hd 25) md_X0_fifteensWith mi_X0_fifteensWith ms_X0_fifteensWith ml_0_101 (cX0_fifteensWith (xl x) w hL t ht 0 (mI M b32 4) M) ht rfl (by decide) ⟨Nat.le_of_ble_eq_true rfl, Nat.le_of_ble_eq_true rfl⟩ rfl rfl (Nat.le_of_ble_eq_true rfl) (fun r35 => .long r35 :: []) (fun _ => M) (fun _ => ⟨rfl, rfl⟩) rfl (fun r35 _ => ?_)
  refine r_aload_n (pc' := 53) hx (hd 26) rfl 2 rfl rfl ?_
  refine r_iconst (pc' := 54) (v := 1) hx (hd 27) (by decide) rfl ?_
  refine r_iload_n (pc' := 55) hx (hd 28) rfl 1 rfl rfl ?_
  refine r_callV (pc' := 58) (As := [.int 1, .int v14]) (rest := [.long r35]) hx (hd 29) md_X0_fifteensWith mi_X0_fifteensWith ms_X0_fifteensWith ml_0_101 (cX0_fifteensWith (xl x) w hL t ht 1 v14 M) ht rfl (by decide) ⟨Nat.le_of_ble_eq_true rfl, Nat.le_of_ble_eq_true rfl⟩ rfl rfl (Nat.le_of_ble_eq_true rfl) (fun r36 => .long r36 :: [.long r35]) (fun _ => M) (fun _ => ⟨rfl, rfl⟩) rfl (fun r36 _ => ?_)
  refine r_ladd (pc' := 59) hx (hd 30) rfl ?_
  refine r_aload_n (pc' := 60) hx (hd 31) rfl 2 rfl rfl ?_
  refine r_iconst (pc' := 61) (v := 1) hx (hd 32) (by decide) rfl ?_
  refine r_iload_n (pc' := 62) hx (hd 33) rfl 0 rfl rfl ?_
  refine r_callV (pc' := 65) (As := [.int 1, .int v28]) (rest := [.long (r35 + r36)]) hx (hd 34) md_X0_fifteensWith mi_X0_fifteensWith ms_X0_fifteensWith ml_0_101 (cX0_fifteensWith (xl x) w hL t ht 1 v28 M) ht rfl (by decide) ⟨Nat.le_of_ble_eq_true rfl, Nat.le_of_ble_eq_true rfl⟩ rfl rfl (Nat.le_of_ble_eq_true rfl) (fun r37 => .long r37 :: [.long (r35 + r36)]) (fun _ => M) (fun _ => ⟨rfl, rfl⟩) rfl (fun r37 _ => ?_)
  refine r_ladd (pc' := 66) hx (hd 35) rfl ?_
  refine r_aload_n (pc' := 67) hx (hd 36) rfl 2 rfl rfl ?_
  refine r_iconst (pc' := 68) (v := 2) hx (hd 37) (by decide) rfl ?_
  refine r_iload_n (pc' := 69) hx (hd 38) rfl 1 rfl rfl ?_
  refine r_aload_n (pc' := 70) hx (hd 39) rfl 2 rfl rfl ?_
  refine r_get (pc' := 73) (v := va_rf (mR M t 4)) hx (hd 40) fl_0_26 ht rfl (by decide) rfl ?_
  refine r_wt (fun wt40 => ?_)
  refine r_nmR (fun v38 hn39 => ?_)
  refine r_aload_n (pc' := 74) hx (hd 41) rfl 2 rfl rfl ?_
  refine r_get (pc' := 77) (v := .int (mI M t 6)) hx (hd 42) fl_0_34 ht rfl (by decide) rfl ?_
  refine r_bd (fun b41 e42 => ?_)
  have h43 := (fun b hb => wt40 _ _ _ ht 4 10 b rfl (hn39 ▸ hb)) b41 e42
  subst e42
  refine r_callV (pc' := 80) (As := [.int (mI M t 6)]) (rest := [.int v14, .int 2, .ref t, .long ((r35 + r36) + r37)]) hx (hd 43) md_X10_valueOf mi_X10_valueOf ms_X10_valueOf ml_0_82 (cX10_valueOf (xl x) w hL b41 h43 (mI M t 6) M) h43 rfl (by decide) ⟨Nat.le_of_ble_eq_true rfl, Nat.le_of_ble_eq_true rfl⟩ rfl rfl (Nat.le_of_ble_eq_true rfl) (fun r44 => .int r44 :: [.int v14, .int 2, .ref t, .long ((r35 + r36) + r37)]) (fun _ => M) (fun _ => ⟨rfl, rfl⟩) rfl (fun r44 _ => ?_)
  refine r_isub (pc' := 81) hx (hd 44) rfl ?_
  refine r_callV (pc' := 84) (As := [.int 2, .int (v14 - r44)]) (rest := [.long ((r35 + r36) + r37)]) hx (hd 45) md_X0_fifteensWith mi_X0_fifteensWith ms_X0_fifteensWith ml_0_101 (cX0_fifteensWith (xl x) w hL t ht 2 (v14 - r44) M) ht rfl (by decide) ⟨Nat.le_of_ble_eq_true rfl, Nat.le_of_ble_eq_true rfl⟩ rfl rfl (Nat.le_of_ble_eq_true rfl) (fun r45 => .long r45 :: [.long ((r35 + r36) + r37)]) (fun _ => M) (fun _ => ⟨rfl, rfl⟩) rfl (fun r45 _ => ?_)
  refine r_ladd (pc' := 85) hx (hd 46) rfl ?_
  exact r_lret hx (hd 47) rfl rfl hz
abbrev yX0_pairs : MethodName := ({ cls := "CribbageRoom$CribSum", name := "pairs", desc := "()J" } : Jvm.MethodName)
def tbX0_pairs : List (Nat × Instr × Nat) := [(0, .lconst 0, 1), (1, .lstore_n 1, 1), (2, .iconst 0, 1), (3, .istore_n 3, 1), (4, .iload_n 3, 1), (5, .bipush 13, 2), (7, .if_icmp .ge 120, 3), (10, .aload_n 0, 1), (11, .getfield 30, 3), (14, .iconst 4, 1), (15, .idiv, 1), (16, .iload_n 3, 1), (17, .if_icmp .ne 7, 3), (20, .iconst 1, 1), (21, .goto 4, 3), (24, .iconst 0, 1), (25, .aload_n 0, 1), (26, .getfield 34, 3), (29, .iconst 4, 1), (30, .idiv, 1), (31, .iload_n 3, 1), (32, .if_icmp .ne 7, 3), (35, .iconst 1, 1), (36, .goto 4, 3), (39, .iconst 0, 1), (40, .iadd, 1), (41, .i2l, 1), (42, .lstore 4, 2), (44, .aload_n 0, 1), (45, .getfield 16, 3), (48, .iload_n 3, 1), (49, .iaload, 1), (50, .i2l, 1), (51, .lstore 6, 2), (53, .lload 4, 2), (55, .iconst 2, 1), (56, .invokestatic 105, 3), (59, .aload_n 0, 1), (60, .getfield 43, 3), (63, .i2l, 1), (64, .iconst 3, 1), (65, .invokestatic 105, 3), (68, .lmul, 1), (69, .lload 4, 2), (71, .lload 6, 2), (73, .lmul, 1), (74, .aload_n 0, 1), (75, .getfield 43, 3), (78, .iconst 1, 1), (79, .isub, 1), (80, .i2l, 1), (81, .iconst 2, 1), (82, .invokestatic 105, 3), (85, .lmul, 1), (86, .ladd, 1), (87, .lload 6, 2), (89, .iconst 2, 1), (90, .invokestatic 105, 3), (93, .aload_n 0, 1), (94, .getfield 43, 3), (97, .iconst 2, 1), (98, .isub, 1), (99, .i2l, 1), (100, .lmul, 1), (101, .ladd, 1), (102, .lstore 8, 2), (104, .lload_n 1, 1), (105, .lload 8, 2), (107, .aload_n 0, 1), (108, .getfield 26, 3), (111, .iconst 2, 1), (112, .iconst 1, 1), (113, .iload_n 3, 1), (114, .invokevirtual 109, 3), (117, .i2l, 1), (118, .lmul, 1), (119, .ladd, 1), (120, .lstore_n 1, 1), (121, .iinc 3 1, 3), (124, .goto (-120), 3), (127, .lload_n 1, 1), (128, .lreturn, 1)]
theorem dX0_pairs : ∀ q ∈ tbX0_pairs, decode prog_2_method_8_code q.1 = .ok q.2 := by decide +kernel
set_option maxRecDepth 20000 in
theorem cX0_pairs (l : Launch) (w : WX) (hL : Lay w) (t : Nat) (ht : Wat w t 0 0) (M : Mem) : Ct l w yX0_pairs prog_2_method_8_code 10 (Option.some FieldType.long) 1 25 evJ (emC M) [.ref t] M (FX0_pairs t M) := by
  refine ct_of (by decide) (Nat.le_of_ble_eq_true rfl) (fun x hl hx hb hz => ?_)
  subst hl
  have hd : ∀ i, DAt (xc x).code (tbX0_pairs[i]?) := fun i => by rw [hb]; exact dat_of dX0_pairs i
  show C x w (Qn x w evJ (emC M)) 10 0 [(0, .ref t)] [] M (FX0_pairs t M)
  unfold FX0_pairs
  refine r_lconst (pc' := 1) (v := 0) hx (hd 0) (by decide) rfl ?_
  refine r_lstore_n (pc' := 2) (L' := [(1, .long 0), (0, .ref t)]) hx (hd 1) rfl (by decide) rfl rfl ?_
  refine r_iconst (pc' := 3) (v := 0) hx (hd 2) (by decide) rfl ?_
  refine r_istore_n (pc' := 4) (L' := [(3, .int 0), (1, .long 0), (0, .ref t)]) hx (hd 3) rfl (by decide) rfl rfl ?_
  refine r_sub [2, 1, 0] rfl ?_
  refine r_wl2 (fun v1 v2 => [(0, .ref t), (1, .long v1), (3, .int v2)]) (fun v1 v2 => []) (fun v1 v2 => M) (fun v1 v2 rec3 ih4 => ?_) fuel 0 0
  refine r_iload_n (pc' := 5) hx (hd 4) rfl 2 rfl rfl ?_
  refine r_bipush (pc' := 7) (v := 13) hx (hd 5) (by decide) rfl ?_
  refine r_icmp_ge (tgt := 127) (pc' := 10) hx (hd 6) (by decide) (fun _ => ?_) rfl (fun _ => ?_)
  · skip
    refine r_lload_n (pc' := 128) hx (hd 80) rfl 1 rfl rfl ?_
    exact r_lret hx (hd 81) rfl rfl hz
  · skip
    refine r_aload_n (pc' := 11) hx (hd 7) rfl 0 rfl rfl ?_
    refine r_get (pc' := 14) (v := .int (mI M t 5)) hx (hd 8) fl_0_30 ht rfl (by decide) rfl ?_
    refine r_iconst (pc' := 15) (v := 4) hx (hd 9) (by decide) rfl ?_
    refine r_idiv (pc' := 16) hx (hd 10) (by decide) rfl ?_
    refine r_iload_n (pc' := 17) hx (hd 11) rfl 2 rfl rfl ?_
    refine r_jn1 25 (fun v5 => [(0, .ref t), (1, .long v1), (3, .int v2)]) (fun v5 => [.int v5]) (fun v5 => M) (fun v5 => ?_) (fun j6 hj7 => ?_)
    · skip
      refine r_aload_n (pc' := 26) hx (hd 16) rfl 0 rfl rfl ?_
      refine r_get (pc' := 29) (v := .int (mI M t 6)) hx (hd 17) fl_0_34 ht rfl (by decide) rfl ?_
      refine r_iconst (pc' := 30) (v := 4) hx (hd 18) (by decide) rfl ?_
      refine r_idiv (pc' := 31) hx (hd 19) (by decide) rfl ?_
      refine r_iload_n (pc' := 32) hx (hd 20) rfl 2 rfl rfl ?_
      refine r_jn1 40 (fun v8 => [(0, .ref t), (1, .long v1), (3, .int v2)]) (fun v8 => [.int v8, .int v5]) (fun v8 => M) (fun v8 => ?_) (fun j9 hj10 => ?_)
      · skip
        refine r_iadd (pc' := 41) hx (hd 25) rfl ?_
        refine r_i2l (pc' := 42) hx (hd 26) rfl ?_
        refine r_nmJ (fun v11 => ?_)
        refine r_lstore (pc' := 44) (L' := [(4, .long v11), (0, .ref t), (1, .long v1), (3, .int v2)]) hx (hd 27) (by decide) rfl rfl ?_
        refine r_aload_n (pc' := 45) hx (hd 28) rfl 1 rfl rfl ?_
        refine r_get (pc' := 48) (v := .ref (t + 6)) hx (hd 29) fl_0_16 ht rfl (by decide) rfl ?_
        have h12 := hL.1 _ _ _ ht 1 6 20 13 rfl
        refine r_iload_n (pc' := 49) hx (hd 30) rfl 3 rfl rfl ?_
        refine r_gd (fun h13 => ?_)
        refine r_iald (pc' := 50) (k := ix v2) hx (hd 31) h12 h13 rfl rfl ?_
        refine r_i2l (pc' := 51) hx (hd 32) rfl ?_
        refine r_nmJ (fun v14 => ?_)
        refine r_lstore (pc' := 53) (L' := [(6, .long v14), (4, .long v11), (0, .ref t), (1, .long v1), (3, .int v2)]) hx (hd 33) (by decide) rfl rfl ?_
        refine r_lload (pc' := 55) hx (hd 34) 1 rfl rfl ?_
        refine r_iconst (pc' := 56) (v := 2) hx (hd 35) (by decide) rfl ?_
        refine r_callS (pc' := 59) (As := [.long v11, .int 2]) (rest := []) hx (hd 36) md_X0_choose mst_X0_choose ml_0_105 (cX0_choose (xl x) w hL v11 2 M) ⟨Nat.le_of_ble_eq_true rfl, Nat.le_of_ble_eq_true rfl⟩ rfl rfl (Nat.le_of_ble_eq_true rfl) (fun r15 => .long r15 :: []) (fun _ => M) (fun _ => ⟨rfl, rfl⟩) rfl (fun r15 _ => ?_)
        refine r_aload_n (pc' := 60) hx (hd 37) rfl 2 rfl rfl ?_
        refine r_get (pc' := 63) (v := .int (mI M t 7)) hx (hd 38) fl_0_43 ht rfl (by decide) rfl ?_
        refine r_i2l (pc' := 64) hx (hd 39) rfl ?_
        refine r_iconst (pc' := 65) (v := 3) hx (hd 40) (by decide) rfl ?_
        refine r_callS (pc' := 68) (As := [.long (mI M t 7).toInt64, .int 3]) (rest := [.long r15]) hx (hd 41) md_X0_choose mst_X0_choose ml_0_105 (cX0_choose (xl x) w hL ((mI M t 7).toInt64) 3 M) ⟨Nat.le_of_ble_eq_true rfl, Nat.le_of_ble_eq_true rfl⟩ rfl rfl (Nat.le_of_ble_eq_true rfl) (fun r16 => .long r16 :: [.long r15]) (fun _ => M) (fun _ => ⟨rfl, rfl⟩) rfl (fun r16 _ => ?_)
        refine r_lmul (pc' := 69) hx (hd 42) rfl ?_
        refine r_lload (pc' := 71) hx (hd 43) 1 rfl rfl ?_
        refine r_lload (pc' := 73) hx (hd 44) 0 rfl rfl ?_
        refine r_lmul (pc' := 74) hx (hd 45) rfl ?_
        refine r_aload_n (pc' := 75) hx (hd 46) rfl 2 rfl rfl ?_
        refine r_get (pc' := 78) (v := .int (mI M t 7)) hx (hd 47) fl_0_43 ht rfl (by decide) rfl ?_
        refine r_iconst (pc' := 79) (v := 1) hx (hd 48) (by decide) rfl ?_
        refine r_isub (pc' := 80) hx (hd 49) rfl ?_
        refine r_i2l (pc' := 81) hx (hd 50) rfl ?_
        refine r_iconst (pc' := 82) (v := 2) hx (hd 51) (by decide) rfl ?_
        refine r_callS (pc' := 85) (As := [.long ((mI M t 7) - 1).toInt64, .int 2]) (rest := [.long (v11 * v14), .long (r15 * r16)]) hx (hd 52) md_X0_choose mst_X0_choose ml_0_105 (cX0_choose (xl x) w hL (((mI M t 7) - 1).toInt64) 2 M) ⟨Nat.le_of_ble_eq_true rfl, Nat.le_of_ble_eq_true rfl⟩ rfl rfl (Nat.le_of_ble_eq_true rfl) (fun r17 => .long r17 :: [.long (v11 * v14), .long (r15 * r16)]) (fun _ => M) (fun _ => ⟨rfl, rfl⟩) rfl (fun r17 _ => ?_)
        refine r_lmul (pc' := 86) hx (hd 53) rfl ?_
        refine r_ladd (pc' := 87) hx (hd 54) rfl ?_
        refine r_lload (pc' := 89) hx (hd 55) 0 rfl rfl ?_
        refine r_iconst (pc' := 90) (v := 2) hx (hd 56) (by decide) rfl ?_
        refine r_callS (pc' := 93) (As := [.long v14, .int 2]) (rest := [.long ((r15 * r16) + ((v11 * v14) * r17))]) hx (hd 57) md_X0_choose mst_X0_choose ml_0_105 (cX0_choose (xl x) w hL v14 2 M) ⟨Nat.le_of_ble_eq_true rfl, Nat.le_of_ble_eq_true rfl⟩ rfl rfl (Nat.le_of_ble_eq_true rfl) (fun r18 => .long r18 :: [.long ((r15 * r16) + ((v11 * v14) * r17))]) (fun _ => M) (fun _ => ⟨rfl, rfl⟩) rfl (fun r18 _ => ?_)
        refine r_aload_n (pc' := 94) hx (hd 58) rfl 2 rfl rfl ?_
        refine r_get (pc' := 97) (v := .int (mI M t 7)) hx (hd 59) fl_0_43 ht rfl (by decide) rfl ?_
        refine r_iconst (pc' := 98) (v := 2) hx (hd 60) (by decide) rfl ?_
        refine r_isub (pc' := 99) hx (hd 61) rfl ?_
        refine r_i2l (pc' := 100) hx (hd 62) rfl ?_
        refine r_lmul (pc' := 101) hx (hd 63) rfl ?_
        refine r_ladd (pc' := 102) hx (hd 64) rfl ?_
        refine r_nmJ (fun v19 => ?_)
        refine r_lstore (pc' := 104) (L' := [(8, .long v19), (6, .long v14), (4, .long v11), (0, .ref t), (1, .long v1), (3, .int v2)]) hx (hd 65) (by decide) rfl rfl ?_
        refine r_lload_n (pc' := 105) hx (hd 66) rfl 4 rfl rfl ?_
        refine r_lload (pc' := 107) hx (hd 67) 0 rfl rfl ?_
        refine r_aload_n (pc' := 108) hx (hd 68) rfl 3 rfl rfl ?_
        refine r_get (pc' := 111) (v := va_rf (mR M t 4)) hx (hd 69) fl_0_26 ht rfl (by decide) rfl ?_
        refine r_wt (fun wt22 => ?_)
        refine r_nmR (fun v20 hn21 => ?_)
        refine r_iconst (pc' := 112) (v := 2) hx (hd 70) (by decide) rfl ?_
        refine r_iconst (pc' := 113) (v := 1) hx (hd 71) (by decide) rfl ?_
        refine r_iload_n (pc' := 114) hx (hd 72) rfl 5 rfl rfl ?_
        refine r_bd (fun b23 e24 => ?_)
        have h25 := (fun b hb => wt22 _ _ _ ht 4 10 b rfl (hn21 ▸ hb)) b23 e24
        subst e24
        refine r_callV (pc' := 117) (As := [.int 2, .int 1, .int v2]) (rest := [.long v19, .long v1]) hx (hd 73) md_X10_countOf mi_X10_countOf ms_X10_countOf ml_0_109 (cX10_countOf (xl x) w hL b23 h25 2 1 v2 M) h25 rfl (by decide) ⟨Nat.le_of_ble_eq_true rfl, Nat.le_of_ble_eq_true rfl⟩ rfl rfl (Nat.le_of_ble_eq_true rfl) (fun r26 => .int r26 :: [.long v19, .long v1]) (fun _ => M) (fun _ => ⟨rfl, rfl⟩) rfl (fun r26 _ => ?_)
        refine r_i2l (pc' := 118) hx (hd 74) rfl ?_
        refine r_lmul (pc' := 119) hx (hd 75) rfl ?_
        refine r_ladd (pc' := 120) hx (hd 76) rfl ?_
        refine r_nmJ (fun v27 => ?_)
        refine r_lstore_n (pc' := 121) (L' := [(1, .long v27), (8, .long v19), (6, .long v14), (4, .long v11), (0, .ref t), (3, .int v2)]) hx (hd 77) rfl (by decide) rfl rfl ?_
        refine r_iinc (pc' := 124) (v := 1) hx (hd 78) 5 rfl (by decide) (by decide) (fun v28 => [(3, .int v28), (1, .long v27), (8, .long v19), (6, .long v14), (4, .long v11), (0, .ref t)]) (fun _ => rfl) rfl (fun v28 => ?_)
        refine r_goto (tgt := 4) hx (hd 79) (by decide) ?_
        refine r_sub [5, 1, 0] rfl ?_
        exact ih4 v27 v28
      refine r_icmp_ne (tgt := 39) (pc' := 35) hx (hd 21) (by decide) (fun _ => ?_) rfl (fun _ => ?_)
      · skip
        refine r_iconst (pc' := 40) (v := 0) hx (hd 24) (by decide) rfl ?_
        exact hj10 0
      · skip
        refine r_iconst (pc' := 36) (v := 1) hx (hd 22) (by decide) rfl ?_
        refine r_goto (tgt := 40) hx (hd 23) (by decide) ?_
        exact hj10 1
    refine r_icmp_ne (tgt := 24) (pc' := 20) hx (hd 12) (by decide) (fun _ => ?_) rfl (fun _ => ?_)
    · skip
      refine r_iconst (pc' := 25) (v := 0) hx (hd 15) (by decide) rfl ?_
      exact hj7 0
    · skip
      refine r_iconst (pc' := 21) (v := 1) hx (hd 13) (by decide) rfl ?_
      refine r_goto (tgt := 25) hx (hd 14) (by decide) ?_
      exact hj7 1
abbrev yX0_runsWith : MethodName := ({ cls := "CribbageRoom$CribSum", name := "runsWith", desc := "(III)J" } : Jvm.MethodName)
def tbX0_runsWith : List (Nat × Instr × Nat) := [(0, .iload_n 1, 1), (1, .iload_n 3, 1), (2, .if_icmp .ne 19, 3), (5, .aload_n 0, 1), (6, .getfield 16, 3), (9, .iload_n 1, 1), (10, .iaload, 1), (11, .i2l, 1), (12, .iconst 3, 1), (13, .invokestatic 105, 3), (16, .lstore 4, 2), (18, .goto 86, 3), (21, .iload_n 1, 1), (22, .iload_n 2, 1), (23, .if_icmp .ne 27, 3), (26, .aload_n 0, 1), (27, .getfield 16, 3), (30, .iload_n 1, 1), (31, .iaload, 1), (32, .i2l, 1), (33, .iconst 2, 1), (34, .invokestatic 105, 3), (37, .aload_n 0, 1), (38, .getfield 16, 3), (41, .iload_n 3, 1), (42, .iaload, 1), (43, .i2l, 1), (44, .lmul, 1), (45, .lstore 4, 2), (47, .goto 57, 3), (50, .iload_n 2, 1), (51, .iload_n 3, 1), (52, .if_icmp .ne 27, 3), (55, .aload_n 0, 1), (56, .getfield 16, 3), (59, .iload_n 2, 1), (60, .iaload, 1), (61, .i2l, 1), (62, .iconst 2, 1), (63, .invokestatic 105, 3), (66, .aload_n 0, 1), (67, .getfield 16, 3), (70, .iload_n 1, 1), (71, .iaload, 1), (72, .i2l, 1), (73, .lmul, 1), (74, .lstore 4, 2), (76, .goto 28, 3), (79, .aload_n 0, 1), (80, .getfield 16, 3), (83, .iload_n 1, 1), (84, .iaload, 1), (85, .i2l, 1), (86, .aload_n 0, 1), (87, .getfield 16, 3), (90, .iload_n 2, 1), (91, .iaload, 1), (92, .i2l, 1), (93, .lmul, 1), (94, .aload_n 0, 1), (95, .getfield 16, 3), (98, .iload_n 3, 1), (99, .iaload, 1), (100, .i2l, 1), (101, .lmul, 1), (102, .lstore 4, 2), (104, .aload_n 0, 1), (105, .getfield 23, 3), (108, .iload_n 1, 1), (109, .dup2, 1), (110, .iaload, 1), (111, .iconst 1, 1), (112, .iadd, 1), (113, .iastore, 1), (114, .aload_n 0, 1), (115, .getfield 23, 3), (118, .iload_n 2, 1), (119, .dup2, 1), (120, .iaload, 1), (121, .iconst 1, 1), (122, .iadd, 1), (123, .iastore, 1), (124, .aload_n 0, 1), (125, .getfield 23, 3), (128, .iload_n 3, 1), (129, .dup2, 1), (130, .iaload, 1), (131, .iconst 1, 1), (132, .iadd, 1), (133, .iastore, 1), (134, .aload_n 0, 1), (135, .getfield 26, 3), (138, .aload_n 0, 1), (139, .getfield 23, 3), (142, .iconst 1, 1), (143, .invokevirtual 117, 3), (146, .i2l, 1), (147, .lstore 6, 2), (149, .aload_n 0, 1), (150, .getfield 23, 3), (153, .iload_n 1, 1), (154, .dup2, 1), (155, .iaload, 1), (156, .iconst 1, 1), (157, .isub, 1), (158, .iastore, 1), (159, .aload_n 0, 1), (160, .getfield 23, 3), (163, .iload_n 2, 1), (164, .dup2, 1), (165, .iaload, 1), (166, .iconst 1, 1), (167, .isub, 1), (168, .iastore, 1), (169, .aload_n 0, 1), (170, .getfield 23, 3), (173, .iload_n 3, 1), (174, .dup2, 1), (175, .iaload, 1), (176, .iconst 1, 1), (177, .isub, 1), (178, .iastore, 1), (179, .lload 4, 2), (181, .lload 6, 2), (183, .lmul, 1), (184, .lreturn, 1)]
theorem dX0_runsWith : ∀ q ∈ tbX0_runsWith, decode prog_2_method_10_code q.1 = .ok q.2 := by decide +kernel
set_option maxRecDepth 20000 in
theorem cX0_runsWith (l : Launch) (w : WX) (hL : Lay w) (t : Nat) (ht : Wat w t 0 0) (p1 : Int32) (p2 : Int32) (p3 : Int32) (M : Mem) : Ct l w yX0_runsWith prog_2_method_10_code 8 (Option.some FieldType.long) 2 49 evJM emM [.ref t, .int p1, .int p2, .int p3] M (FX0_runsWith t p1 p2 p3 M) := by
  refine ct_of (by decide) (Nat.le_of_ble_eq_true rfl) (fun x hl hx hb hz => ?_)
  subst hl
  have hd : ∀ i, DAt (xc x).code (tbX0_runsWith[i]?) := fun i => by rw [hb]; exact dat_of dX0_runsWith i
  show C x w (Qn x w evJM emM) 8 0 [(0, .ref t), (1, .int p1), (2, .int p2), (3, .int p3)] [] M (FX0_runsWith t p1 p2 p3 M)
  unfold FX0_runsWith
  refine r_iload_n (pc' := 1) hx (hd 0) rfl 1 rfl rfl ?_
  refine r_iload_n (pc' := 2) hx (hd 1) rfl 3 rfl rfl ?_
  refine r_jn1 104 (fun v1 => [(0, .ref t), (1, .int p1), (2, .int p2), (3, .int p3), (4, .long v1)]) (fun v1 => []) (fun v1 => M) (fun v1 => ?_) (fun j2 hj3 => ?_)
  · skip
    refine r_aload_n (pc' := 105) hx (hd 66) rfl 0 rfl rfl ?_
    refine r_get (pc' := 108) (v := .ref (t + 8)) hx (hd 67) fl_0_23 ht rfl (by decide) rfl ?_
    have h4 := hL.1 _ _ _ ht 3 8 20 13 rfl
    refine r_iload_n (pc' := 109) hx (hd 68) rfl 1 rfl rfl ?_
    refine r_dup2 (pc' := 110) hx (hd 69) rfl rfl rfl ?_
    refine r_gd (fun h5 => ?_)
    refine r_iald (pc' := 111) (k := ix p1) hx (hd 70) h4 h5 rfl rfl ?_
    refine r_iconst (pc' := 112) (v := 1) hx (hd 71) (by decide) rfl ?_
    refine r_iadd (pc' := 113) hx (hd 72) rfl ?_
    refine r_gd (fun h7 => ?_)
    refine r_iast (pc' := 114) (k := ix p1) hx (hd 73) h4 h7 rfl rfl (fun M6 => ?_)
    refine r_aload_n (pc' := 115) hx (hd 74) rfl 0 rfl rfl ?_
    refine r_get (pc' := 118) (v := .ref (t + 8)) hx (hd 75) fl_0_23 ht rfl (by decide) rfl ?_
    have h8 := hL.1 _ _ _ ht 3 8 20 13 rfl
    refine r_iload_n (pc' := 119) hx (hd 76) rfl 2 rfl rfl ?_
    refine r_dup2 (pc' := 120) hx (hd 77) rfl rfl rfl ?_
    refine r_gd (fun h9 => ?_)
    refine r_iald (pc' := 121) (k := ix p2) hx (hd 78) h8 h9 rfl rfl ?_
    refine r_iconst (pc' := 122) (v := 1) hx (hd 79) (by decide) rfl ?_
    refine r_iadd (pc' := 123) hx (hd 80) rfl ?_
    refine r_gd (fun h11 => ?_)
    refine r_iast (pc' := 124) (k := ix p2) hx (hd 81) h8 h11 rfl rfl (fun M10 => ?_)
    refine r_aload_n (pc' := 125) hx (hd 82) rfl 0 rfl rfl ?_
    refine r_get (pc' := 128) (v := .ref (t + 8)) hx (hd 83) fl_0_23 ht rfl (by decide) rfl ?_
    have h12 := hL.1 _ _ _ ht 3 8 20 13 rfl
    refine r_iload_n (pc' := 129) hx (hd 84) rfl 3 rfl rfl ?_
    refine r_dup2 (pc' := 130) hx (hd 85) rfl rfl rfl ?_
    refine r_gd (fun h13 => ?_)
    refine r_iald (pc' := 131) (k := ix p3) hx (hd 86) h12 h13 rfl rfl ?_
    refine r_iconst (pc' := 132) (v := 1) hx (hd 87) (by decide) rfl ?_
    refine r_iadd (pc' := 133) hx (hd 88) rfl ?_
    refine r_gd (fun h15 => ?_)
    refine r_iast (pc' := 134) (k := ix p3) hx (hd 89) h12 h15 rfl rfl (fun M14 => ?_)
    refine r_aload_n (pc' := 135) hx (hd 90) rfl 0 rfl rfl ?_
    refine r_get (pc' := 138) (v := va_rf (mR M14 t 4)) hx (hd 91) fl_0_26 ht rfl (by decide) rfl ?_
    refine r_wt (fun wt18 => ?_)
    refine r_nmR (fun v16 hn17 => ?_)
    refine r_aload_n (pc' := 139) hx (hd 92) rfl 0 rfl rfl ?_
    refine r_get (pc' := 142) (v := .ref (t + 8)) hx (hd 93) fl_0_23 ht rfl (by decide) rfl ?_
    have h19 := hL.1 _ _ _ ht 3 8 20 13 rfl
    refine r_iconst (pc' := 143) (v := 1) hx (hd 94) (by decide) rfl ?_
    refine r_bd (fun b20 e21 => ?_)
    have h22 := (fun b hb => wt18 _ _ _ ht 4 10 b rfl (hn17 ▸ hb)) b20 e21
    subst e21
    refine r_callV (pc' := 146) (As := [.ref (t + 8), .int 1]) (rest := []) hx (hd 95) md_X10_runsOf mi_X10_runsOf ms_X10_runsOf ml_0_117 (cX10_runsOf (xl x) w hL b20 h22 (t + 8) 13 h19 1 M14) h22 rfl (by decide) ⟨Nat.le_of_ble_eq_true rfl, Nat.le_of_ble_eq_true rfl⟩ rfl rfl (Nat.le_of_ble_eq_true rfl) (fun r23 => .int r23 :: []) (fun _ => M14) (fun _ => ⟨rfl, rfl⟩) rfl (fun r23 _ => ?_)
    refine r_i2l (pc' := 147) hx (hd 96) rfl ?_
    refine r_nmJ (fun v24 => ?_)
    refine r_lstore (pc' := 149) (L' := [(6, .long v24), (0, .ref t), (1, .int p1), (2, .int p2), (3, .int p3), (4, .long v1)]) hx (hd 97) (by decide) rfl rfl ?_
    refine r_aload_n (pc' := 150) hx (hd 98) rfl 1 rfl rfl ?_
    refine r_get (pc' := 153) (v := .ref (t + 8)) hx (hd 99) fl_0_23 ht rfl (by decide) rfl ?_
    have h25 := hL.1 _ _ _ ht 3 8 20 13 rfl
    refine r_iload_n (pc' := 154) hx (hd 100) rfl 2 rfl rfl ?_
    refine r_dup2 (pc' := 155) hx (hd 101) rfl rfl rfl ?_
    refine r_gd (fun h26 => ?_)
    refine r_iald (pc' := 156) (k := ix p1) hx (hd 102) h25 h26 rfl rfl ?_
    refine r_iconst (pc' := 157) (v := 1) hx (hd 103) (by decide) rfl ?_
    refine r_isub (pc' := 158) hx (hd 104) rfl ?_
    refine r_gd (fun h28 => ?_)
    refine r_iast (pc' := 159) (k := ix p1) hx (hd 105) h25 h28 rfl rfl (fun M27 => ?_)
    refine r_aload_n (pc' := 160) hx (hd 106) rfl 1 rfl rfl ?_
    refine r_get (pc' := 163) (v := .ref (t + 8)) hx (hd 107) fl_0_23 ht rfl (by decide) rfl ?_
    have h29 := hL.1 _ _ _ ht 3 8 20 13 rfl
    refine r_iload_n (pc' := 164) hx (hd 108) rfl 3 rfl rfl ?_
    refine r_dup2 (pc' := 165) hx (hd 109) rfl rfl rfl ?_
    refine r_gd (fun h30 => ?_)
    refine r_iald (pc' := 166) (k := ix p2) hx (hd 110) h29 h30 rfl rfl ?_
    refine r_iconst (pc' := 167) (v := 1) hx (hd 111) (by decide) rfl ?_
    refine r_isub (pc' := 168) hx (hd 112) rfl ?_
    refine r_gd (fun h32 => ?_)
    refine r_iast (pc' := 169) (k := ix p2) hx (hd 113) h29 h32 rfl rfl (fun M31 => ?_)
    refine r_aload_n (pc' := 170) hx (hd 114) rfl 1 rfl rfl ?_
    refine r_get (pc' := 173) (v := .ref (t + 8)) hx (hd 115) fl_0_23 ht rfl (by decide) rfl ?_
    have h33 := hL.1 _ _ _ ht 3 8 20 13 rfl
    refine r_iload_n (pc' := 174) hx (hd 116) rfl 4 rfl rfl ?_
    refine r_dup2 (pc' := 175) hx (hd 117) rfl rfl rfl ?_
    refine r_gd (fun h34 => ?_)
    refine r_iald (pc' := 176) (k := ix p3) hx (hd 118) h33 h34 rfl rfl ?_
    refine r_iconst (pc' := 177) (v := 1) hx (hd 119) (by decide) rfl ?_
    refine r_isub (pc' := 178) hx (hd 120) rfl ?_
    refine r_gd (fun h36 => ?_)
    refine r_iast (pc' := 179) (k := ix p3) hx (hd 121) h33 h36 rfl rfl (fun M35 => ?_)
    refine r_lload (pc' := 181) hx (hd 122) 5 rfl rfl ?_
    refine r_lload (pc' := 183) hx (hd 123) 0 rfl rfl ?_
    refine r_lmul (pc' := 184) hx (hd 124) rfl ?_
    exact r_lret hx (hd 125) rfl rfl hz
  refine r_icmp_ne (tgt := 21) (pc' := 5) hx (hd 2) (by decide) (fun _ => ?_) rfl (fun _ => ?_)
  · skip
    refine r_iload_n (pc' := 22) hx (hd 12) rfl 1 rfl rfl ?_
    refine r_iload_n (pc' := 23) hx (hd 13) rfl 2 rfl rfl ?_
    refine r_icmp_ne (tgt := 50) (pc' := 26) hx (hd 14) (by decide) (fun _ => ?_) rfl (fun _ => ?_)
    · skip
      refine r_iload_n (pc' := 51) hx (hd 30) rfl 2 rfl rfl ?_
      refine r_iload_n (pc' := 52) hx (hd 31) rfl 3 rfl rfl ?_
      refine r_icmp_ne (tgt := 79) (pc' := 55) hx (hd 32) (by decide) (fun _ => ?_) rfl (fun _ => ?_)
      · skip
        refine r_aload_n (pc' := 80) hx (hd 48) rfl 0 rfl rfl ?_
        refine r_get (pc' := 83) (v := .ref (t + 6)) hx (hd 49) fl_0_16 ht rfl (by decide) rfl ?_
        have h37 := hL.1 _ _ _ ht 1 6 20 13 rfl
        refine r_iload_n (pc' := 84) hx (hd 50) rfl 1 rfl rfl ?_
        refine r_gd (fun h38 => ?_)
        refine r_iald (pc' := 85) (k := ix p1) hx (hd 51) h37 h38 rfl rfl ?_
        refine r_i2l (pc' := 86) hx (hd 52) rfl ?_
        refine r_aload_n (pc' := 87) hx (hd 53) rfl 0 rfl rfl ?_
        refine r_get (pc' := 90) (v := .ref (t + 6)) hx (hd 54) fl_0_16 ht rfl (by decide) rfl ?_
        have h39 := hL.1 _ _ _ ht 1 6 20 13 rfl
        refine r_iload_n (pc' := 91) hx (hd 55) rfl 2 rfl rfl ?_
        refine r_gd (fun h40 => ?_)
        refine r_iald (pc' := 92) (k := ix p2) hx (hd 56) h39 h40 rfl rfl ?_
        refine r_i2l (pc' := 93) hx (hd 57) rfl ?_
        refine r_lmul (pc' := 94) hx (hd 58) rfl ?_
        refine r_aload_n (pc' := 95) hx (hd 59) rfl 0 rfl rfl ?_
        refine r_get (pc' := 98) (v := .ref (t + 6)) hx (hd 60) fl_0_16 ht rfl (by decide) rfl ?_
        have h41 := hL.1 _ _ _ ht 1 6 20 13 rfl
        refine r_iload_n (pc' := 99) hx (hd 61) rfl 3 rfl rfl ?_
        refine r_gd (fun h42 => ?_)
        refine r_iald (pc' := 100) (k := ix p3) hx (hd 62) h41 h42 rfl rfl ?_
        refine r_i2l (pc' := 101) hx (hd 63) rfl ?_
        refine r_lmul (pc' := 102) hx (hd 64) rfl ?_
        refine r_nmJ (fun v43 => ?_)
        refine r_lstore (pc' := 104) (L' := [(4, .long v43), (0, .ref t), (1, .int p1), (2, .int p2), (3, .int p3)]) hx (hd 65) (by decide) rfl rfl ?_
        refine r_sub [1, 2, 3, 4, 0] rfl ?_
        exact hj3 v43
      · skip
        refine r_aload_n (pc' := 56) hx (hd 33) rfl 0 rfl rfl ?_
        refine r_get (pc' := 59) (v := .ref (t + 6)) hx (hd 34) fl_0_16 ht rfl (by decide) rfl ?_
        have h44 := hL.1 _ _ _ ht 1 6 20 13 rfl
        refine r_iload_n (pc' := 60) hx (hd 35) rfl 2 rfl rfl ?_
        refine r_gd (fun h45 => ?_)
        refine r_iald (pc' := 61) (k := ix p2) hx (hd 36) h44 h45 rfl rfl ?_
        refine r_i2l (pc' := 62) hx (hd 37) rfl ?_
        refine r_iconst (pc' := 63) (v := 2) hx (hd 38) (by decide) rfl ?_
        refine r_callS (pc' := 66) (As := [.long (mI M (t + 6) (ix p2)).toInt64, .int 2]) (rest := []) hx (hd 39) md_X0_choose mst_X0_choose ml_0_105 (cX0_choose (xl x) w hL ((mI M (t + 6) (ix p2)).toInt64) 2 M) ⟨Nat.le_of_ble_eq_true rfl, Nat.le_of_ble_eq_true rfl⟩ rfl rfl (Nat.le_of_ble_eq_true rfl) (fun r46 => .long r46 :: []) (fun _ => M) (fun _ => ⟨rfl, rfl⟩) rfl (fun r46 _ => ?_)
        refine r_aload_n (pc' := 67) hx (hd 40) rfl 0 rfl rfl ?_
        refine r_get (pc' := 70) (v := .ref (t + 6)) hx (hd 41) fl_0_16 ht rfl (by decide) rfl ?_
        have h47 := hL.1 _ _ _ ht 1 6 20 13 rfl
        refine r_iload_n (pc' := 71) hx (hd 42) rfl 1 rfl rfl ?_
        refine r_gd (fun h48 => ?_)
        refine r_iald (pc' := 72) (k := ix p1) hx (hd 43) h47 h48 rfl rfl ?_
        refine r_i2l (pc' := 73) hx (hd 44) rfl ?_
        refine r_lmul (pc' := 74) hx (hd 45) rfl ?_
        refine r_nmJ (fun v49 => ?_)
        refine r_lstore (pc' := 76) (L' := [(4, .long v49), (0, .ref t), (1, .int p1), (2, .int p2), (3, .int p3)]) hx (hd 46) (by decide) rfl rfl ?_
        refine r_goto (tgt := 104) hx (hd 47) (by decide) ?_
        refine r_sub [1, 2, 3, 4, 0] rfl ?_
        exact hj3 v49
    · skip
      refine r_aload_n (pc' := 27) hx (hd 15) rfl 0 rfl rfl ?_
      refine r_get (pc' := 30) (v := .ref (t + 6)) hx (hd 16) fl_0_16 ht rfl (by decide) rfl ?_
      have h50 := hL.1 _ _ _ ht 1 6 20 13 rfl
      refine r_iload_n (pc' := 31) hx (hd 17) rfl 1 rfl rfl ?_
      refine r_gd (fun h51 => ?_)
      refine r_iald (pc' := 32) (k := ix p1) hx (hd 18) h50 h51 rfl rfl ?_
      refine r_i2l (pc' := 33) hx (hd 19) rfl ?_
      refine r_iconst (pc' := 34) (v := 2) hx (hd 20) (by decide) rfl ?_
      refine r_callS (pc' := 37) (As := [.long (mI M (t + 6) (ix p1)).toInt64, .int 2]) (rest := []) hx (hd 21) md_X0_choose mst_X0_choose ml_0_105 (cX0_choose (xl x) w hL ((mI M (t + 6) (ix p1)).toInt64) 2 M) ⟨Nat.le_of_ble_eq_true rfl, Nat.le_of_ble_eq_true rfl⟩ rfl rfl (Nat.le_of_ble_eq_true rfl) (fun r52 => .long r52 :: []) (fun _ => M) (fun _ => ⟨rfl, rfl⟩) rfl (fun r52 _ => ?_)
      refine r_aload_n (pc' := 38) hx (hd 22) rfl 0 rfl rfl ?_
      refine r_get (pc' := 41) (v := .ref (t + 6)) hx (hd 23) fl_0_16 ht rfl (by decide) rfl ?_
      have h53 := hL.1 _ _ _ ht 1 6 20 13 rfl
      refine r_iload_n (pc' := 42) hx (hd 24) rfl 3 rfl rfl ?_
      refine r_gd (fun h54 => ?_)
      refine r_iald (pc' := 43) (k := ix p3) hx (hd 25) h53 h54 rfl rfl ?_
      refine r_i2l (pc' := 44) hx (hd 26) rfl ?_
      refine r_lmul (pc' := 45) hx (hd 27) rfl ?_
      refine r_nmJ (fun v55 => ?_)
      refine r_lstore (pc' := 47) (L' := [(4, .long v55), (0, .ref t), (1, .int p1), (2, .int p2), (3, .int p3)]) hx (hd 28) (by decide) rfl rfl ?_
      refine r_goto (tgt := 104) hx (hd 29) (by decide) ?_
      refine r_sub [1, 2, 3, 4, 0] rfl ?_
      exact hj3 v55
  · skip
    refine r_aload_n (pc' := 6) hx (hd 3) rfl 0 rfl rfl ?_
    refine r_get (pc' := 9) (v := .ref (t + 6)) hx (hd 4) fl_0_16 ht rfl (by decide) rfl ?_
    have h56 := hL.1 _ _ _ ht 1 6 20 13 rfl
    refine r_iload_n (pc' := 10) hx (hd 5) rfl 1 rfl rfl ?_
    refine r_gd (fun h57 => ?_)
    refine r_iald (pc' := 11) (k := ix p1) hx (hd 6) h56 h57 rfl rfl ?_
    refine r_i2l (pc' := 12) hx (hd 7) rfl ?_
    refine r_iconst (pc' := 13) (v := 3) hx (hd 8) (by decide) rfl ?_
    refine r_callS (pc' := 16) (As := [.long (mI M (t + 6) (ix p1)).toInt64, .int 3]) (rest := []) hx (hd 9) md_X0_choose mst_X0_choose ml_0_105 (cX0_choose (xl x) w hL ((mI M (t + 6) (ix p1)).toInt64) 3 M) ⟨Nat.le_of_ble_eq_true rfl, Nat.le_of_ble_eq_true rfl⟩ rfl rfl (Nat.le_of_ble_eq_true rfl) (fun r58 => .long r58 :: []) (fun _ => M) (fun _ => ⟨rfl, rfl⟩) rfl (fun r58 _ => ?_)
    refine r_lstore (pc' := 18) (L' := [(4, .long r58), (0, .ref t), (1, .int p1), (2, .int p2), (3, .int p3)]) hx (hd 10) (by decide) rfl rfl ?_
    refine r_goto (tgt := 104) hx (hd 11) (by decide) ?_
    refine r_sub [1, 2, 3, 4, 0] rfl ?_
    exact hj3 r58
abbrev yX0_runs : MethodName := ({ cls := "CribbageRoom$CribSum", name := "runs", desc := "()J" } : Jvm.MethodName)
def tbX0_runs : List (Nat × Instr × Nat) := [(0, .aload_n 0, 1), (1, .getfield 23, 3), (4, .iconst 0, 1), (5, .invokestatic 69, 3), (8, .aload_n 0, 1), (9, .getfield 23, 3), (12, .aload_n 0, 1), (13, .getfield 30, 3), (16, .iconst 4, 1), (17, .idiv, 1), (18, .dup2, 1), (19, .iaload, 1), (20, .iconst 1, 1), (21, .iadd, 1), (22, .iastore, 1), (23, .aload_n 0, 1), (24, .getfield 23, 3), (27, .aload_n 0, 1), (28, .getfield 34, 3), (31, .iconst 4, 1), (32, .idiv, 1), (33, .dup2, 1), (34, .iaload, 1), (35, .iconst 1, 1), (36, .iadd, 1), (37, .iastore, 1), (38, .lconst 0, 1), (39, .lstore_n 1, 1), (40, .iconst 0, 1), (41, .istore_n 3, 1), (42, .iload_n 3, 1), (43, .bipush 13, 2), (45, .if_icmp .ge 54, 3), (48, .iload_n 3, 1), (49, .istore 4, 2), (51, .iload 4, 2), (53, .bipush 13, 2), (55, .if_icmp .ge 38, 3), (58, .iload 4, 2), (60, .istore 5, 2), (62, .iload 5, 2), (64, .bipush 13, 2), (66, .if_icmp .ge 21, 3), (69, .lload_n 1, 1), (70, .aload_n 0, 1), (71, .iload_n 3, 1), (72, .iload 4, 2), (74, .iload 5, 2), (76, .invokevirtual 113, 3), (79, .ladd, 1), (80, .lstore_n 1, 1), (81, .iinc 5 1, 3), (84, .goto (-22), 3), (87, .iinc 4 1, 3), (90, .goto (-39), 3), (93, .iinc 3 1, 3), (96, .goto (-54), 3), (99, .lload_n 1, 1), (100, .lreturn, 1)]
theorem dX0_runs : ∀ q ∈ tbX0_runs, decode prog_2_method_9_code q.1 = .ok q.2 := by decide +kernel
set_option maxRecDepth 20000 in
theorem cX0_runs (l : Launch) (w : WX) (hL : Lay w) (t : Nat) (ht : Wat w t 0 0) (M : Mem) : Ct l w yX0_runs prog_2_method_9_code 6 (Option.some FieldType.long) 3 76 evJM emM [.ref t] M (FX0_runs t M) := by
  refine ct_of (by decide) (Nat.le_of_ble_eq_true rfl) (fun x hl hx hb hz => ?_)
  subst hl
  have hd : ∀ i, DAt (xc x).code (tbX0_runs[i]?) := fun i => by rw [hb]; exact dat_of dX0_runs i
  show C x w (Qn x w evJM emM) 6 0 [(0, .ref t)] [] M (FX0_runs t M)
  unfold FX0_runs
  refine r_aload_n (pc' := 1) hx (hd 0) rfl 0 rfl rfl ?_
  refine r_get (pc' := 4) (v := .ref (t + 8)) hx (hd 1) fl_0_23 ht rfl (by decide) rfl ?_
  have h1 := hL.1 _ _ _ ht 3 8 20 13 rfl
  refine r_iconst (pc' := 5) (v := 0) hx (hd 2) (by decide) rfl ?_
  refine r_callSU (pc' := 8) (As := [.ref (t + 8), .int 0]) (rest := []) hx (hd 3) md_J_Arrays_fill_0 mst_J_Arrays_fill_0 ml_0_69 (cJ_Arrays_fill_0 (xl x) w hL (t + 8) 13 h1 0 M) ⟨Nat.le_of_ble_eq_true rfl, Nat.le_of_ble_eq_true rfl⟩ rfl rfl (Nat.le_of_ble_eq_true rfl) rfl (fun M2 => ?_)
  refine r_aload_n (pc' := 9) hx (hd 4) rfl 0 rfl rfl ?_
  refine r_get (pc' := 12) (v := .ref (t + 8)) hx (hd 5) fl_0_23 ht rfl (by decide) rfl ?_
  have h3 := hL.1 _ _ _ ht 3 8 20 13 rfl
  refine r_aload_n (pc' := 13) hx (hd 6) rfl 0 rfl rfl ?_
  refine r_get (pc' := 16) (v := .int (mI M2 t 5)) hx (hd 7) fl_0_30 ht rfl (by decide) rfl ?_
  refine r_iconst (pc' := 17) (v := 4) hx (hd 8) (by decide) rfl ?_
  refine r_idiv (pc' := 18) hx (hd 9) (by decide) rfl ?_
  refine r_dup2 (pc' := 19) hx (hd 10) rfl rfl rfl ?_
  refine r_gd (fun h4 => ?_)
  refine r_iald (pc' := 20) (k := ix ((mI M2 t 5) / 4)) hx (hd 11) h3 h4 rfl rfl ?_
  refine r_iconst (pc' := 21) (v := 1) hx (hd 12) (by decide) rfl ?_
  refine r_iadd (pc' := 22) hx (hd 13) rfl ?_
  refine r_gd (fun h6 => ?_)
  refine r_iast (pc' := 23) (k := ix ((mI M2 t 5) / 4)) hx (hd 14) h3 h6 rfl rfl (fun M5 => ?_)
  refine r_aload_n (pc' := 24) hx (hd 15) rfl 0 rfl rfl ?_
  refine r_get (pc' := 27) (v := .ref (t + 8)) hx (hd 16) fl_0_23 ht rfl (by decide) rfl ?_
  have h7 := hL.1 _ _ _ ht 3 8 20 13 rfl
  refine r_aload_n (pc' := 28) hx (hd 17) rfl 0 rfl rfl ?_
  refine r_get (pc' := 31) (v := .int (mI M5 t 6)) hx (hd 18) fl_0_34 ht rfl (by decide) rfl ?_
  refine r_iconst (pc' := 32) (v := 4) hx (hd 19) (by decide) rfl ?_
  refine r_idiv (pc' := 33) hx (hd 20) (by decide) rfl ?_
  refine r_dup2 (pc' := 34) hx (hd 21) rfl rfl rfl ?_
  refine r_gd (fun h8 => ?_)
  refine r_iald (pc' := 35) (k := ix ((mI M5 t 6) / 4)) hx (hd 22) h7 h8 rfl rfl ?_
  refine r_iconst (pc' := 36) (v := 1) hx (hd 23) (by decide) rfl ?_
  refine r_iadd (pc' := 37) hx (hd 24) rfl ?_
  refine r_gd (fun h10 => ?_)
  refine r_iast (pc' := 38) (k := ix ((mI M5 t 6) / 4)) hx (hd 25) h7 h10 rfl rfl (fun M9 => ?_)
  refine r_lconst (pc' := 39) (v := 0) hx (hd 26) (by decide) rfl ?_
  refine r_lstore_n (pc' := 40) (L' := [(1, .long 0), (0, .ref t)]) hx (hd 27) rfl (by decide) rfl rfl ?_
  refine r_iconst (pc' := 41) (v := 0) hx (hd 28) (by decide) rfl ?_
  refine r_istore_n (pc' := 42) (L' := [(3, .int 0), (1, .long 0), (0, .ref t)]) hx (hd 29) rfl (by decide) rfl rfl ?_
  refine r_sub [2, 1, 0] rfl ?_
  refine r_wl3 (fun v11 v12 M13 => [(0, .ref t), (1, .long v11), (3, .int v12)]) (fun v11 v12 M13 => []) (fun v11 v12 M13 => M13) (fun v11 v12 M13 rec14 ih15 => ?_) fuel 0 0 M9
  refine r_iload_n (pc' := 43) hx (hd 30) rfl 2 rfl rfl ?_
  refine r_bipush (pc' := 45) (v := 13) hx (hd 31) (by decide) rfl ?_
  refine r_icmp_ge (tgt := 99) (pc' := 48) hx (hd 32) (by decide) (fun _ => ?_) rfl (fun _ => ?_)
  · skip
    refine r_lload_n (pc' := 100) hx (hd 57) rfl 1 rfl rfl ?_
    exact r_lret hx (hd 58) rfl rfl hz
  · skip
    refine r_iload_n (pc' := 49) hx (hd 33) rfl 2 rfl rfl ?_
    refine r_istore (pc' := 51) (L' := [(4, .int v12), (0, .ref t), (1, .long v11), (3, .int v12)]) hx (hd 34) (by decide) rfl rfl ?_
    refine r_sub [1, 2, 3, 0] rfl ?_
    refine r_wl3 (fun v16 v17 M18 => [(0, .ref t), (1, .long v16), (3, .int v12), (4, .int v17)]) (fun v16 v17 M18 => []) (fun v16 v17 M18 => M18) (fun v16 v17 M18 rec19 ih20 => ?_) fuel v11 v12 M13
    refine r_iload (pc' := 53) hx (hd 35) 3 rfl rfl ?_
    refine r_bipush (pc' := 55) (v := 13) hx (hd 36) (by decide) rfl ?_
    refine r_icmp_ge (tgt := 93) (pc' := 58) hx (hd 37) (by decide) (fun _ => ?_) rfl (fun _ => ?_)
    · skip
      refine r_iinc (pc' := 96) (v := 1) hx (hd 55) 2 rfl (by decide) (by decide) (fun v21 => [(3, .int v21), (0, .ref t), (1, .long v16), (4, .int v17)]) (fun _ => rfl) rfl (fun v21 => ?_)
      refine r_goto (tgt := 42) hx (hd 56) (by decide) ?_
      refine r_sub [1, 2, 0] rfl ?_
      exact ih15 v16 v21 M18
    · skip
      refine r_iload (pc' := 60) hx (hd 38) 3 rfl rfl ?_
      refine r_istore (pc' := 62) (L' := [(5, .int v17), (0, .ref t), (1, .long v16), (3, .int v12), (4, .int v17)]) hx (hd 39) (by decide) rfl rfl ?_
      refine r_sub [1, 2, 3, 4, 0] rfl ?_
      refine r_wl3 (fun v22 v23 M24 => [(0, .ref t), (1, .long v22), (3, .int v12), (4, .int v17), (5, .int v23)]) (fun v22 v23 M24 => []) (fun v22 v23 M24 => M24) (fun v22 v23 M24 rec25 ih26 => ?_) fuel v16 v17 M18
      refine r_iload (pc' := 64) hx (hd 40) 4 rfl rfl ?_
      refine r_bipush (pc' := 66) (v := 13) hx (hd 41) (by decide) rfl ?_
      refine r_icmp_ge (tgt := 87) (pc' := 69) hx (hd 42) (by decide) (fun _ => ?_) rfl (fun _ => ?_)
      · skip
        refine r_iinc (pc' := 90) (v := 1) hx (hd 53) 3 rfl (by decide) (by decide) (fun v27 => [(4, .int v27), (0, .ref t), (1, .long v22), (3, .int v12), (5, .int v23)]) (fun _ => rfl) rfl (fun v27 => ?_)
        refine r_goto (tgt := 51) hx (hd 54) (by decide) ?_
        refine r_sub [1, 2, 3, 0] rfl ?_
        exact ih20 v22 v27 M24
      · skip
        refine r_lload_n (pc' := 70) hx (hd 43) rfl 1 rfl rfl ?_
        refine r_aload_n (pc' := 71) hx (hd 44) rfl 0 rfl rfl ?_
        refine r_iload_n (pc' := 72) hx (hd 45) rfl 2 rfl rfl ?_
        refine r_iload (pc' := 74) hx (hd 46) 3 rfl rfl ?_
        refine r_iload (pc' := 76) hx (hd 47) 4 rfl rfl ?_
        refine r_callVJ (pc' := 79) (As := [.int v12, .int v17, .int v23]) (rest := [.long v22]) hx (hd 48) md_X0_runsWith mi_X0_runsWith ms_X0_runsWith ml_0_113 (cX0_runsWith (xl x) w hL t ht v12 v17 v23 M24) ht rfl (by decide) ⟨Nat.le_of_ble_eq_true rfl, Nat.le_of_ble_eq_true rfl⟩ rfl rfl (Nat.le_of_ble_eq_true rfl) (fun r29 => .long r29 :: [.long v22]) (fun _ => rfl) rfl (fun r29 M28 => ?_)
        refine r_ladd (pc' := 80) hx (hd 49) rfl ?_
        refine r_nmJ (fun v30 => ?_)
        refine r_lstore_n (pc' := 81) (L' := [(1, .long v30), (0, .ref t), (3, .int v12), (4, .int v17), (5, .int v23)]) hx (hd 50) rfl (by decide) rfl rfl ?_
        refine r_iinc (pc' := 84) (v := 1) hx (hd 51) 4 rfl (by decide) (by decide) (fun v31 => [(5, .int v31), (1, .long v30), (0, .ref t), (3, .int v12), (4, .int v17)]) (fun _ => rfl) rfl (fun v31 => ?_)
        refine r_goto (tgt := 62) hx (hd 52) (by decide) ?_
        refine r_sub [2, 1, 3, 4, 0] rfl ?_
        exact ih26 v30 v31 M28
abbrev yX0_flushes : MethodName := ({ cls := "CribbageRoom$CribSum", name := "flushes", desc := "()J" } : Jvm.MethodName)
def tbX0_flushes : List (Nat × Instr × Nat) := [(0, .aload_n 0, 1), (1, .getfield 30, 3), (4, .iconst 4, 1), (5, .irem, 1), (6, .istore_n 1, 1), (7, .aload_n 0, 1), (8, .getfield 34, 3), (11, .iconst 4, 1), (12, .irem, 1), (13, .iload_n 1, 1), (14, .if_icmp .eq 5, 3), (17, .lconst 0, 1), (18, .lreturn, 1), (19, .aload_n 0, 1), (20, .getfield 20, 3), (23, .iload_n 1, 1), (24, .iaload, 1), (25, .i2l, 1), (26, .iconst 3, 1), (27, .invokestatic 105, 3), (30, .aload_n 0, 1), (31, .getfield 26, 3), (34, .iconst 4, 1), (35, .iconst 1, 1), (36, .iload_n 1, 1), (37, .iconst 5, 1), (38, .invokestatic 121, 3), (41, .invokevirtual 109, 3), (44, .i2l, 1), (45, .lmul, 1), (46, .lreturn, 1)]
theorem dX0_flushes : ∀ q ∈ tbX0_flushes, decode prog_2_method_11_code q.1 = .ok q.2 := by decide +kernel
set_option maxRecDepth 20000 in
theorem cX0_flushes (l : Launch) (w : WX) (hL : Lay w) (t : Nat) (ht : Wat w t 0 0) (M : Mem) : Ct l w yX0_flushes prog_2_method_11_code 2 (Option.some FieldType.long) 1 25 evJ (emC M) [.ref t] M (FX0_flushes t M) := by
  refine ct_of (by decide) (Nat.le_of_ble_eq_true rfl) (fun x hl hx hb hz => ?_)
  subst hl
  have hd : ∀ i, DAt (xc x).code (tbX0_flushes[i]?) := fun i => by rw [hb]; exact dat_of dX0_flushes i
  show C x w (Qn x w evJ (emC M)) 2 0 [(0, .ref t)] [] M (FX0_flushes t M)
  unfold FX0_flushes
  refine r_aload_n (pc' := 1) hx (hd 0) rfl 0 rfl rfl ?_
  refine r_get (pc' := 4) (v := .int (mI M t 5)) hx (hd 1) fl_0_30 ht rfl (by decide) rfl ?_
  refine r_iconst (pc' := 5) (v := 4) hx (hd 2) (by decide) rfl ?_
  refine r_irem (pc' := 6) hx (hd 3) (by decide) rfl ?_
  refine r_nmI (fun v1 => ?_)
  refine r_istore_n (pc' := 7) (L' := [(1, .int v1), (0, .ref t)]) hx (hd 4) rfl (by decide) rfl rfl ?_
  refine r_aload_n (pc' := 8) hx (hd 5) rfl 1 rfl rfl ?_
  refine r_get (pc' := 11) (v := .int (mI M t 6)) hx (hd 6) fl_0_34 ht rfl (by decide) rfl ?_
  refine r_iconst (pc' := 12) (v := 4) hx (hd 7) (by decide) rfl ?_
  refine r_irem (pc' := 13) hx (hd 8) (by decide) rfl ?_
  refine r_iload_n (pc' := 14) hx (hd 9) rfl 0 rfl rfl ?_
  refine r_icmp_eq (tgt := 19) (pc' := 17) hx (hd 10) (by decide) (fun _ => ?_) rfl (fun _ => ?_)
  · skip
    refine r_aload_n (pc' := 20) hx (hd 13) rfl 1 rfl rfl ?_
    refine r_get (pc' := 23) (v := .ref (t + 7)) hx (hd 14) fl_0_20 ht rfl (by decide) rfl ?_
    have h2 := hL.1 _ _ _ ht 2 7 20 4 rfl
    refine r_iload_n (pc' := 24) hx (hd 15) rfl 0 rfl rfl ?_
    refine r_gd (fun h3 => ?_)
    refine r_iald (pc' := 25) (k := ix v1) hx (hd 16) h2 h3 rfl rfl ?_
    refine r_i2l (pc' := 26) hx (hd 17) rfl ?_
    refine r_iconst (pc' := 27) (v := 3) hx (hd 18) (by decide) rfl ?_
    refine r_callS (pc' := 30) (As := [.long (mI M (t + 7) (ix v1)).toInt64, .int 3]) (rest := []) hx (hd 19) md_X0_choose mst_X0_choose ml_0_105 (cX0_choose (xl x) w hL ((mI M (t + 7) (ix v1)).toInt64) 3 M) ⟨Nat.le_of_ble_eq_true rfl, Nat.le_of_ble_eq_true rfl⟩ rfl rfl (Nat.le_of_ble_eq_true rfl) (fun r4 => .long r4 :: []) (fun _ => M) (fun _ => ⟨rfl, rfl⟩) rfl (fun r4 _ => ?_)
    refine r_aload_n (pc' := 31) hx (hd 20) rfl 1 rfl rfl ?_
    refine r_get (pc' := 34) (v := va_rf (mR M t 4)) hx (hd 21) fl_0_26 ht rfl (by decide) rfl ?_
    refine r_wt (fun wt7 => ?_)
    refine r_nmR (fun v5 hn6 => ?_)
    refine r_iconst (pc' := 35) (v := 4) hx (hd 22) (by decide) rfl ?_
    refine r_iconst (pc' := 36) (v := 1) hx (hd 23) (by decide) rfl ?_
    refine r_iload_n (pc' := 37) hx (hd 24) rfl 0 rfl rfl ?_
    refine r_iconst (pc' := 38) (v := 5) hx (hd 25) (by decide) rfl ?_
    refine r_callS (pc' := 41) (As := [.int v1, .int 5]) (rest := [.int 1, .int 4, va_rf v5, .long r4]) hx (hd 26) md_X10_flushItem mst_X10_flushItem ml_0_121 (cX10_flushItem (xl x) w hL v1 5 M) ⟨Nat.le_of_ble_eq_true rfl, Nat.le_of_ble_eq_true rfl⟩ rfl rfl (by cases v5 <;> exact Nat.le_of_ble_eq_true rfl) (fun r8 => .int r8 :: [.int 1, .int 4, va_rf v5, .long r4]) (fun _ => M) (fun _ => ⟨rfl, rfl⟩) rfl (fun r8 _ => ?_)
    refine r_bd (fun b9 e10 => ?_)
    have h11 := (fun b hb => wt7 _ _ _ ht 4 10 b rfl (hn6 ▸ hb)) b9 e10
    subst e10
    refine r_callV (pc' := 44) (As := [.int 4, .int 1, .int r8]) (rest := [.long r4]) hx (hd 27) md_X10_countOf mi_X10_countOf ms_X10_countOf ml_0_109 (cX10_countOf (xl x) w hL b9 h11 4 1 r8 M) h11 rfl (by decide) ⟨Nat.le_of_ble_eq_true rfl, Nat.le_of_ble_eq_true rfl⟩ rfl rfl (Nat.le_of_ble_eq_true rfl) (fun r12 => .int r12 :: [.long r4]) (fun _ => M) (fun _ => ⟨rfl, rfl⟩) rfl (fun r12 _ => ?_)
    refine r_i2l (pc' := 45) hx (hd 28) rfl ?_
    refine r_lmul (pc' := 46) hx (hd 29) rfl ?_
    exact r_lret hx (hd 30) rfl rfl hz
  · skip
    refine r_lconst (pc' := 18) (v := 0) hx (hd 11) (by decide) rfl ?_
    exact r_lret hx (hd 12) rfl rfl hz
abbrev yX0_nobs : MethodName := ({ cls := "CribbageRoom$CribSum", name := "nobs", desc := "(J)J" } : Jvm.MethodName)
def tbX0_nobs : List (Nat × Instr × Nat) := [(0, .lconst 0, 1), (1, .lstore_n 3, 1), (2, .iconst 0, 1), (3, .istore 5, 2), (5, .iload 5, 2), (7, .iconst 4, 1), (8, .if_icmp .ge 109, 3), (11, .bipush 40, 2), (13, .iload 5, 2), (15, .iadd, 1), (16, .istore 6, 2), (18, .lconst 0, 1), (19, .lstore 7, 2), (21, .aload_n 0, 1), (22, .getfield 30, 3), (25, .iload 6, 2), (27, .if_icmp .eq 12, 3), (30, .aload_n 0, 1), (31, .getfield 34, 3), (34, .iload 6, 2), (36, .if_icmp .ne 28, 3), (39, .aload_n 0, 1), (40, .getfield 20, 3), (43, .iload 5, 2), (45, .iaload, 1), (46, .i2l, 1), (47, .aload_n 0, 1), (48, .getfield 43, 3), (51, .iconst 1, 1), (52, .isub, 1), (53, .i2l, 1), (54, .iconst 2, 1), (55, .invokestatic 105, 3), (58, .lmul, 1), (59, .lstore 7, 2), (61, .goto 32, 3), (64, .lload_n 1, 1), (65, .iload 6, 2), (67, .invokestatic 78, 3), (70, .ifCond .eq 23, 3), (73, .aload_n 0, 1), (74, .getfield 20, 3), (77, .iload 5, 2), (79, .iaload, 1), (80, .i2l, 1), (81, .lconst 1, 1), (82, .lsub, 1), (83, .aload_n 0, 1), (84, .getfield 43, 3), (87, .iconst 2, 1), (88, .isub, 1), (89, .i2l, 1), (90, .lmul, 1), (91, .lstore 7, 2), (93, .lload_n 3, 1), (94, .lload 7, 2), (96, .aload_n 0, 1), (97, .getfield 26, 3), (100, .iconst 5, 1), (101, .iconst 1, 1), (102, .iload 5, 2), (104, .invokevirtual 109, 3), (107, .i2l, 1), (108, .lmul, 1), (109, .ladd, 1), (110, .lstore_n 3, 1), (111, .iinc 5 1, 3), (114, .goto (-109), 3), (117, .lload_n 3, 1), (118, .lreturn, 1)]
theorem dX0_nobs : ∀ q ∈ tbX0_nobs, decode prog_2_method_12_code q.1 = .ok q.2 := by decide +kernel
set_option maxRecDepth 20000 in
theorem cX0_nobs (l : Launch) (w : WX) (hL : Lay w) (t : Nat) (ht : Wat w t 0 0) (p1 : Int64) (M : Mem) : Ct l w yX0_nobs prog_2_method_12_code 9 (Option.some FieldType.long) 2 42 evJ (emC M) [.ref t, .long p1] M (FX0_nobs t p1 M) := by
  refine ct_of (by decide) (Nat.le_of_ble_eq_true rfl) (fun x hl hx hb hz => ?_)
  subst hl
  have hd : ∀ i, DAt (xc x).code (tbX0_nobs[i]?) := fun i => by rw [hb]; exact dat_of dX0_nobs i
  show C x w (Qn x w evJ (emC M)) 9 0 [(0, .ref t), (1, .long p1)] [] M (FX0_nobs t p1 M)
  unfold FX0_nobs
  refine r_lconst (pc' := 1) (v := 0) hx (hd 0) (by decide) rfl ?_
  refine r_lstore_n (pc' := 2) (L' := [(3, .long 0), (0, .ref t), (1, .long p1)]) hx (hd 1) rfl (by decide) rfl rfl ?_
  refine r_iconst (pc' := 3) (v := 0) hx (hd 2) (by decide) rfl ?_
  refine r_istore (pc' := 5) (L' := [(5, .int 0), (3, .long 0), (0, .ref t), (1, .long p1)]) hx (hd 3) (by decide) rfl rfl ?_
  refine r_sub [2, 3, 1, 0] rfl ?_
  refine r_wl2 (fun v1 v2 => [(0, .ref t), (1, .long p1), (3, .long v1), (5, .int v2)]) (fun v1 v2 => []) (fun v1 v2 => M) (fun v1 v2 rec3 ih4 => ?_) fuel 0 0
  refine r_iload (pc' := 7) hx (hd 4) 3 rfl rfl ?_
  refine r_iconst (pc' := 8) (v := 4) hx (hd 5) (by decide) rfl ?_
  refine r_icmp_ge (tgt := 117) (pc' := 11) hx (hd 6) (by decide) (fun _ => ?_) rfl (fun _ => ?_)
  · skip
    refine r_lload_n (pc' := 118) hx (hd 68) rfl 2 rfl rfl ?_
    exact r_lret hx (hd 69) rfl rfl hz
  · skip
    refine r_bipush (pc' := 13) (v := 40) hx (hd 7) (by decide) rfl ?_
    refine r_iload (pc' := 15) hx (hd 8) 3 rfl rfl ?_
    refine r_iadd (pc' := 16) hx (hd 9) rfl ?_
    refine r_nmI (fun v5 => ?_)
    refine r_istore (pc' := 18) (L' := [(6, .int v5), (0, .ref t), (1, .long p1), (3, .long v1), (5, .int v2)]) hx (hd 10) (by decide) rfl rfl ?_
    refine r_lconst (pc' := 19) (v := 0) hx (hd 11) (by decide) rfl ?_
    refine r_lstore (pc' := 21) (L' := [(7, .long 0), (6, .int v5), (0, .ref t), (1, .long p1), (3, .long v1), (5, .int v2)]) hx (hd 12) (by decide) rfl rfl ?_
    refine r_aload_n (pc' := 22) hx (hd 13) rfl 2 rfl rfl ?_
    refine r_get (pc' := 25) (v := .int (mI M t 5)) hx (hd 14) fl_0_30 ht rfl (by decide) rfl ?_
    refine r_iload (pc' := 27) hx (hd 15) 1 rfl rfl ?_
    refine r_jn1 93 (fun v6 => [(0, .ref t), (1, .long p1), (3, .long v1), (5, .int v2), (7, .long v6)]) (fun v6 => []) (fun v6 => M) (fun v6 => ?_) (fun j7 hj8 => ?_)
    · skip
      refine r_lload_n (pc' := 94) hx (hd 54) rfl 2 rfl rfl ?_
      refine r_lload (pc' := 96) hx (hd 55) 4 rfl rfl ?_
      refine r_aload_n (pc' := 97) hx (hd 56) rfl 0 rfl rfl ?_
      refine r_get (pc' := 100) (v := va_rf (mR M t 4)) hx (hd 57) fl_0_26 ht rfl (by decide) rfl ?_
      refine r_wt (fun wt11 => ?_)
      refine r_nmR (fun v9 hn10 => ?_)
      refine r_iconst (pc' := 101) (v := 5) hx (hd 58) (by decide) rfl ?_
      refine r_iconst (pc' := 102) (v := 1) hx (hd 59) (by decide) rfl ?_
      refine r_iload (pc' := 104) hx (hd 60) 3 rfl rfl ?_
      refine r_bd (fun b12 e13 => ?_)
      have h14 := (fun b hb => wt11 _ _ _ ht 4 10 b rfl (hn10 ▸ hb)) b12 e13
      subst e13
      refine r_callV (pc' := 107) (As := [.int 5, .int 1, .int v2]) (rest := [.long v6, .long v1]) hx (hd 61) md_X10_countOf mi_X10_countOf ms_X10_countOf ml_0_109 (cX10_countOf (xl x) w hL b12 h14 5 1 v2 M) h14 rfl (by decide) ⟨Nat.le_of_ble_eq_true rfl, Nat.le_of_ble_eq_true rfl⟩ rfl rfl (Nat.le_of_ble_eq_true rfl) (fun r15 => .int r15 :: [.long v6, .long v1]) (fun _ => M) (fun _ => ⟨rfl, rfl⟩) rfl (fun r15 _ => ?_)
      refine r_i2l (pc' := 108) hx (hd 62) rfl ?_
      refine r_lmul (pc' := 109) hx (hd 63) rfl ?_
      refine r_ladd (pc' := 110) hx (hd 64) rfl ?_
      refine r_nmJ (fun v16 => ?_)
      refine r_lstore_n (pc' := 111) (L' := [(3, .long v16), (0, .ref t), (1, .long p1), (5, .int v2), (7, .long v6)]) hx (hd 65) rfl (by decide) rfl rfl ?_
      refine r_iinc (pc' := 114) (v := 1) hx (hd 66) 3 rfl (by decide) (by decide) (fun v17 => [(5, .int v17), (3, .long v16), (0, .ref t), (1, .long p1), (7, .long v6)]) (fun _ => rfl) rfl (fun v17 => ?_)
      refine r_goto (tgt := 5) hx (hd 67) (by decide) ?_
      refine r_sub [2, 3, 1, 0] rfl ?_
      exact ih4 v16 v17
    refine r_jn0 39 ([(0, .ref t), (1, .long p1), (3, .long v1), (5, .int v2)]) ([]) (M) (?_) (fun j18 hj19 => ?_)
    · skip
      refine r_aload_n (pc' := 40) hx (hd 21) rfl 0 rfl rfl ?_
      refine r_get (pc' := 43) (v := .ref (t + 7)) hx (hd 22) fl_0_20 ht rfl (by decide) rfl ?_
      have h20 := hL.1 _ _ _ ht 2 7 20 4 rfl
      refine r_iload (pc' := 45) hx (hd 23) 3 rfl rfl ?_
      refine r_gd (fun h21 => ?_)
      refine r_iald (pc' := 46) (k := ix v2) hx (hd 24) h20 h21 rfl rfl ?_
      refine r_i2l (pc' := 47) hx (hd 25) rfl ?_
      refine r_aload_n (pc' := 48) hx (hd 26) rfl 0 rfl rfl ?_
      refine r_get (pc' := 51) (v := .int (mI M t 7)) hx (hd 27) fl_0_43 ht rfl (by decide) rfl ?_
      refine r_iconst (pc' := 52) (v := 1) hx (hd 28) (by decide) rfl ?_
      refine r_isub (pc' := 53) hx (hd 29) rfl ?_
      refine r_i2l (pc' := 54) hx (hd 30) rfl ?_
      refine r_iconst (pc' := 55) (v := 2) hx (hd 31) (by decide) rfl ?_
      refine r_callS (pc' := 58) (As := [.long ((mI M t 7) - 1).toInt64, .int 2]) (rest := [.long (mI M (t + 7) (ix v2)).toInt64]) hx (hd 32) md_X0_choose mst_X0_choose ml_0_105 (cX0_choose (xl x) w hL (((mI M t 7) - 1).toInt64) 2 M) ⟨Nat.le_of_ble_eq_true rfl, Nat.le_of_ble_eq_true rfl⟩ rfl rfl (Nat.le_of_ble_eq_true rfl) (fun r22 => .long r22 :: [.long (mI M (t + 7) (ix v2)).toInt64]) (fun _ => M) (fun _ => ⟨rfl, rfl⟩) rfl (fun r22 _ => ?_)
      refine r_lmul (pc' := 59) hx (hd 33) rfl ?_
      refine r_nmJ (fun v23 => ?_)
      refine r_lstore (pc' := 61) (L' := [(7, .long v23), (0, .ref t), (1, .long p1), (3, .long v1), (5, .int v2)]) hx (hd 34) (by decide) rfl rfl ?_
      refine r_goto (tgt := 93) hx (hd 35) (by decide) ?_
      refine r_sub [1, 2, 3, 4, 0] rfl ?_
      exact hj8 v23
    refine r_icmp_eq (tgt := 39) (pc' := 30) hx (hd 16) (by decide) (fun _ => ?_) rfl (fun _ => ?_)
    · skip
      refine r_sub [2, 3, 4, 5] rfl ?_
      exact hj19
    · skip
      refine r_aload_n (pc' := 31) hx (hd 17) rfl 2 rfl rfl ?_
      refine r_get (pc' := 34) (v := .int (mI M t 6)) hx (hd 18) fl_0_34 ht rfl (by decide) rfl ?_
      refine r_iload (pc' := 36) hx (hd 19) 1 rfl rfl ?_
      refine r_icmp_ne (tgt := 64) (pc' := 39) hx (hd 20) (by decide) (fun _ => ?_) rfl (fun _ => ?_)
      · skip
        refine r_lload_n (pc' := 65) hx (hd 36) rfl 3 rfl rfl ?_
        refine r_iload (pc' := 67) hx (hd 37) 1 rfl rfl ?_
        refine r_callSN (pc' := 70) (As := [.long p1, .int v5]) (rest := []) hx (hd 38) md_X11_has mst_X11_has ml_0_78 (cX11_has (xl x) w hL p1 v5 M) ⟨Nat.le_of_ble_eq_true rfl, Nat.le_of_ble_eq_true rfl⟩ rfl rfl (Nat.le_of_ble_eq_true rfl) (fun r24 => .int r24 :: []) (fun _ => M) (fun _ => ⟨rfl, rfl⟩) rfl (fun r24 _ => ?_)
        refine r_if_eq (tgt := 93) (pc' := 73) hx (hd 39) (by decide) (fun _ => ?_) rfl (fun _ => ?_)
        · skip
          refine r_sub [2, 3, 4, 5, 0] rfl ?_
          exact hj8 0
        · skip
          refine r_aload_n (pc' := 74) hx (hd 40) rfl 2 rfl rfl ?_
          refine r_get (pc' := 77) (v := .ref (t + 7)) hx (hd 41) fl_0_20 ht rfl (by decide) rfl ?_
          have h25 := hL.1 _ _ _ ht 2 7 20 4 rfl
          refine r_iload (pc' := 79) hx (hd 42) 5 rfl rfl ?_
          refine r_gd (fun h26 => ?_)
          refine r_iald (pc' := 80) (k := ix v2) hx (hd 43) h25 h26 rfl rfl ?_
          refine r_i2l (pc' := 81) hx (hd 44) rfl ?_
          refine r_lconst (pc' := 82) (v := 1) hx (hd 45) (by decide) rfl ?_
          refine r_lsub (pc' := 83) hx (hd 46) rfl ?_
          refine r_aload_n (pc' := 84) hx (hd 47) rfl 2 rfl rfl ?_
          refine r_get (pc' := 87) (v := .int (mI M t 7)) hx (hd 48) fl_0_43 ht rfl (by decide) rfl ?_
          refine r_iconst (pc' := 88) (v := 2) hx (hd 49) (by decide) rfl ?_
          refine r_isub (pc' := 89) hx (hd 50) rfl ?_
          refine r_i2l (pc' := 90) hx (hd 51) rfl ?_
          refine r_lmul (pc' := 91) hx (hd 52) rfl ?_
          refine r_nmJ (fun v27 => ?_)
          refine r_lstore (pc' := 93) (L' := [(7, .long v27), (6, .int v5), (0, .ref t), (1, .long p1), (3, .long v1), (5, .int v2)]) hx (hd 53) (by decide) rfl rfl ?_
          refine r_sub [2, 3, 4, 5, 0] rfl ?_
          exact hj8 v27
      · skip
        refine r_sub [2, 3, 4, 5] rfl ?_
        exact hj19
abbrev yX0_of : MethodName := ({ cls := "CribbageRoom$CribSum", name := "of", desc := "(IIJLCribbageRoom$Worth;)J" } : Jvm.MethodName)
def tbX0_of : List (Nat × Instr × Nat) := [(0, .aload_n 0, 1), (1, .aload 5, 2), (3, .putfield 26, 3), (6, .aload_n 0, 1), (7, .iload_n 1, 1), (8, .putfield 30, 3), (11, .aload_n 0, 1), (12, .iload_n 2, 1), (13, .putfield 34, 3), (16, .aload_n 0, 1), (17, .lload_n 3, 1), (18, .invokestatic 37, 3), (21, .putfield 43, 3), (24, .aload_n 0, 1), (25, .lload_n 3, 1), (26, .invokevirtual 46, 3), (29, .ldc2_w 50, 3), (32, .aload_n 0, 1), (33, .invokevirtual 52, 3), (36, .aload_n 0, 1), (37, .invokevirtual 56, 3), (40, .ladd, 1), (41, .aload_n 0, 1), (42, .invokevirtual 59, 3), (45, .ladd, 1), (46, .aload_n 0, 1), (47, .invokevirtual 62, 3), (50, .ladd, 1), (51, .lmul, 1), (52, .aload_n 0, 1), (53, .lload_n 3, 1), (54, .invokevirtual 65, 3), (57, .ladd, 1), (58, .lreturn, 1)]
theorem dX0_of : ∀ q ∈ tbX0_of, decode prog_2_method_2_code q.1 = .ok q.2 := by decide +kernel
set_option maxRecDepth 20000 in
theorem cX0_of (l : Launch) (w : WX) (hL : Lay w) (t : Nat) (ht : Wat w t 0 0) (p1 : Int32) (p2 : Int32) (p3 : Int64) (p5 : Nat) (hp5 : Wat w p5 10 0) (M : Mem) : Ct l w yX0_of prog_2_method_2_code 6 (Option.some FieldType.long) 4 101 evJM emM [.ref t, .int p1, .int p2, .long p3, .ref p5] M (FX0_of t p1 p2 p3 p5 M) := by
  refine ct_of (by decide) (Nat.le_of_ble_eq_true rfl) (fun x hl hx hb hz => ?_)
  subst hl
  have hd : ∀ i, DAt (xc x).code (tbX0_of[i]?) := fun i => by rw [hb]; exact dat_of dX0_of i
  show C x w (Qn x w evJM emM) 6 0 [(0, .ref t), (1, .int p1), (2, .int p2), (3, .long p3), (5, .ref p5)] [] M (FX0_of t p1 p2 p3 p5 M)
  unfold FX0_of
  refine r_aload_n (pc' := 1) hx (hd 0) rfl 0 rfl rfl ?_
  refine r_aload (pc' := 3) hx (hd 1) 4 rfl rfl ?_
  refine r_putR (pc' := 6) (v := (some p5)) hx (hd 2) fp_0_26 ht rfl (by decide) (fun kd b hm hb => by cases hm; cases hb; exact hp5) rfl (fun M1 => ?_)
  refine r_aload_n (pc' := 7) hx (hd 3) rfl 0 rfl rfl ?_
  refine r_iload_n (pc' := 8) hx (hd 4) rfl 1 rfl rfl ?_
  refine r_putI (pc' := 11) hx (hd 5) fp_0_30 ht rfl (by decide) rfl (fun M2 => ?_)
  refine r_aload_n (pc' := 12) hx (hd 6) rfl 0 rfl rfl ?_
  refine r_iload_n (pc' := 13) hx (hd 7) rfl 2 rfl rfl ?_
  refine r_putI (pc' := 16) hx (hd 8) fp_0_34 ht rfl (by decide) rfl (fun M3 => ?_)
  refine r_aload_n (pc' := 17) hx (hd 9) rfl 0 rfl rfl ?_
  refine r_lload_n (pc' := 18) hx (hd 10) rfl 3 rfl rfl ?_
  refine r_callS (pc' := 21) (As := [.long p3]) (rest := [.ref t]) hx (hd 11) md_J_Long_bitCount mst_J_Long_bitCount ml_0_37 (cJ_Long_bitCount (xl x) w hL p3 M3) ⟨Nat.le_of_ble_eq_true rfl, Nat.le_of_ble_eq_true rfl⟩ rfl rfl (Nat.le_of_ble_eq_true rfl) (fun r4 => .int r4 :: [.ref t]) (fun _ => M3) (fun _ => ⟨rfl, rfl⟩) rfl (fun r4 _ => ?_)
  refine r_putI (pc' := 24) hx (hd 12) fp_0_43 ht rfl (by decide) rfl (fun M5 => ?_)
  refine r_aload_n (pc' := 25) hx (hd 13) rfl 0 rfl rfl ?_
  refine r_lload_n (pc' := 26) hx (hd 14) rfl 3 rfl rfl ?_
  refine r_callVU (pc' := 29) (As := [.long p3]) (rest := []) hx (hd 15) md_X0_sortFree mi_X0_sortFree ms_X0_sortFree ml_0_46 (cX0_sortFree (xl x) w hL t ht p3 M5) ht rfl (by decide) ⟨Nat.le_of_ble_eq_true rfl, Nat.le_of_ble_eq_true rfl⟩ rfl rfl (Nat.le_of_ble_eq_true rfl) rfl (fun M6 => ?_)
  refine r_ldc2 (pc' := 32) hx (hd 16) kc_0_50 rfl ?_
  refine r_aload_n (pc' := 33) hx (hd 17) rfl 0 rfl rfl ?_
  refine r_callV (pc' := 36) (As := []) (rest := [.long 3]) hx (hd 18) md_X0_fifteens mi_X0_fifteens ms_X0_fifteens ml_0_52 (cX0_fifteens (xl x) w hL t ht M6) ht rfl (by decide) ⟨Nat.le_of_ble_eq_true rfl, Nat.le_of_ble_eq_true rfl⟩ rfl rfl (Nat.le_of_ble_eq_true rfl) (fun r7 => .long r7 :: [.long 3]) (fun _ => M6) (fun _ => ⟨rfl, rfl⟩) rfl (fun r7 _ => ?_)
  refine r_aload_n (pc' := 37) hx (hd 19) rfl 0 rfl rfl ?_
  refine r_callV (pc' := 40) (As := []) (rest := [.long r7, .long 3]) hx (hd 20) md_X0_pairs mi_X0_pairs ms_X0_pairs ml_0_56 (cX0_pairs (xl x) w hL t ht M6) ht rfl (by decide) ⟨Nat.le_of_ble_eq_true rfl, Nat.le_of_ble_eq_true rfl⟩ rfl rfl (Nat.le_of_ble_eq_true rfl) (fun r8 => .long r8 :: [.long r7, .long 3]) (fun _ => M6) (fun _ => ⟨rfl, rfl⟩) rfl (fun r8 _ => ?_)
  refine r_ladd (pc' := 41) hx (hd 21) rfl ?_
  refine r_aload_n (pc' := 42) hx (hd 22) rfl 0 rfl rfl ?_
  refine r_callVJ (pc' := 45) (As := []) (rest := [.long (r7 + r8), .long 3]) hx (hd 23) md_X0_runs mi_X0_runs ms_X0_runs ml_0_59 (cX0_runs (xl x) w hL t ht M6) ht rfl (by decide) ⟨Nat.le_of_ble_eq_true rfl, Nat.le_of_ble_eq_true rfl⟩ rfl rfl (Nat.le_of_ble_eq_true rfl) (fun r10 => .long r10 :: [.long (r7 + r8), .long 3]) (fun _ => rfl) rfl (fun r10 M9 => ?_)
  refine r_ladd (pc' := 46) hx (hd 24) rfl ?_
  refine r_aload_n (pc' := 47) hx (hd 25) rfl 0 rfl rfl ?_
  refine r_callV (pc' := 50) (As := []) (rest := [.long ((r7 + r8) + r10), .long 3]) hx (hd 26) md_X0_flushes mi_X0_flushes ms_X0_flushes ml_0_62 (cX0_flushes (xl x) w hL t ht M9) ht rfl (by decide) ⟨Nat.le_of_ble_eq_true rfl, Nat.le_of_ble_eq_true rfl⟩ rfl rfl (Nat.le_of_ble_eq_true rfl) (fun r11 => .long r11 :: [.long ((r7 + r8) + r10), .long 3]) (fun _ => M9) (fun _ => ⟨rfl, rfl⟩) rfl (fun r11 _ => ?_)
  refine r_ladd (pc' := 51) hx (hd 27) rfl ?_
  refine r_lmul (pc' := 52) hx (hd 28) rfl ?_
  refine r_aload_n (pc' := 53) hx (hd 29) rfl 0 rfl rfl ?_
  refine r_lload_n (pc' := 54) hx (hd 30) rfl 3 rfl rfl ?_
  refine r_callV (pc' := 57) (As := [.long p3]) (rest := [.long (3 * (((r7 + r8) + r10) + r11))]) hx (hd 31) md_X0_nobs mi_X0_nobs ms_X0_nobs ml_0_65 (cX0_nobs (xl x) w hL t ht p3 M9) ht rfl (by decide) ⟨Nat.le_of_ble_eq_true rfl, Nat.le_of_ble_eq_true rfl⟩ rfl rfl (Nat.le_of_ble_eq_true rfl) (fun r12 => .long r12 :: [.long (3 * (((r7 + r8) + r10) + r11))]) (fun _ => M9) (fun _ => ⟨rfl, rfl⟩) rfl (fun r12 _ => ?_)
  refine r_ladd (pc' := 58) hx (hd 32) rfl ?_
  exact r_lret hx (hd 33) rfl rfl hz
abbrev yX11_cribOf : MethodName := ({ cls := "CribbageRoom", name := "cribOf", desc := "(II)J" } : Jvm.MethodName)
def tbX11_cribOf : List (Nat × Instr × Nat) := [(0, .iload_n 1, 1), (1, .invokestatic 106, 3), (4, .ifCond .eq 15, 3), (7, .iload_n 2, 1), (8, .invokestatic 106, 3), (11, .ifCond .eq 8, 3), (14, .iload_n 1, 1), (15, .iload_n 2, 1), (16, .if_icmp .ne 7, 3), (19, .ldc2_w 157, 3), (22, .lreturn, 1), (23, .aload_n 0, 1), (24, .getfield 57, 3), (27, .aload_n 0, 1), (28, .getfield 12, 3), (31, .aload_n 0, 1), (32, .getfield 12, 3), (35, .getfield 110, 3), (38, .aload_n 0, 1), (39, .getfield 12, 3), (42, .getfield 113, 3), (45, .invokevirtual 116, 3), (48, .aload_n 0, 1), (49, .getfield 81, 3), (52, .iload_n 1, 1), (53, .iload_n 2, 1), (54, .ldc2_w 326, 3), (57, .aload_n 0, 1), (58, .getfield 12, 3), (61, .getfield 138, 3), (64, .ldc2_w 157, 3), (67, .lxor, 1), (68, .land, 1), (69, .iload_n 1, 1), (70, .invokestatic 231, 3), (73, .ldc2_w 157, 3), (76, .lxor, 1), (77, .land, 1), (78, .iload_n 2, 1), (79, .invokestatic 231, 3), (82, .ldc2_w 157, 3), (85, .lxor, 1), (86, .land, 1), (87, .aload_n 0, 1), (88, .getfield 57, 3), (91, .invokevirtual 328, 3), (94, .lreturn, 1)]
theorem dX11_cribOf : ∀ q ∈ tbX11_cribOf, decode prog_1_method_25_code q.1 = .ok q.2 := by decide +kernel
set_option maxRecDepth 20000 in
theorem cX11_cribOf (l : Launch) (w : WX) (hL : Lay w) (t : Nat) (ht : Wat w t 11 0) (p1 : Int32) (p2 : Int32) (M : Mem) : Ct l w yX11_cribOf prog_1_method_25_code 3 (Option.some FieldType.long) 6 156 evJM emM [.ref t, .int p1, .int p2] M (FX11_cribOf t p1 p2 M) := by
  refine ct_of (by decide) (Nat.le_of_ble_eq_true rfl) (fun x hl hx hb hz => ?_)
  subst hl
  have hd : ∀ i, DAt (xc x).code (tbX11_cribOf[i]?) := fun i => by rw [hb]; exact dat_of dX11_cribOf i
  show C x w (Qn x w evJM emM) 3 0 [(0, .ref t), (1, .int p1), (2, .int p2)] [] M (FX11_cribOf t p1 p2 M)
  unfold FX11_cribOf
  refine r_iload_n (pc' := 1) hx (hd 0) rfl 1 rfl rfl ?_
  refine r_callS (pc' := 4) (As := [.int p1]) (rest := []) hx (hd 1) md_X11_isCard mst_X11_isCard ml_11_106 (cX11_isCard (xl x) w hL p1 M) ⟨Nat.le_of_ble_eq_true rfl, Nat.le_of_ble_eq_true rfl⟩ rfl rfl (Nat.le_of_ble_eq_true rfl) (fun r1 => .int r1 :: []) (fun _ => M) (fun _ => ⟨rfl, rfl⟩) rfl (fun r1 _ => ?_)
  refine r_jn0 19 ([]) ([]) (M) (?_) (fun j2 hj3 => ?_)
  · skip
    refine r_ldc2 (pc' := 22) hx (hd 9) kc_11_157 rfl ?_
    exact r_lret hx (hd 10) rfl rfl hz
  refine r_if_eq (tgt := 19) (pc' := 7) hx (hd 2) (by decide) (fun _ => ?_) rfl (fun _ => ?_)
  · skip
    refine r_sub [] rfl ?_
    exact hj3
  · skip
    refine r_iload_n (pc' := 8) hx (hd 3) rfl 2 rfl rfl ?_
    refine r_callS (pc' := 11) (As := [.int p2]) (rest := []) hx (hd 4) md_X11_isCard mst_X11_isCard ml_11_106 (cX11_isCard (xl x) w hL p2 M) ⟨Nat.le_of_ble_eq_true rfl, Nat.le_of_ble_eq_true rfl⟩ rfl rfl (Nat.le_of_ble_eq_true rfl) (fun r4 => .int r4 :: []) (fun _ => M) (fun _ => ⟨rfl, rfl⟩) rfl (fun r4 _ => ?_)
    refine r_if_eq (tgt := 19) (pc' := 14) hx (hd 5) (by decide) (fun _ => ?_) rfl (fun _ => ?_)
    · skip
      refine r_sub [] rfl ?_
      exact hj3
    · skip
      refine r_iload_n (pc' := 15) hx (hd 6) rfl 1 rfl rfl ?_
      refine r_iload_n (pc' := 16) hx (hd 7) rfl 2 rfl rfl ?_
      refine r_icmp_ne (tgt := 23) (pc' := 19) hx (hd 8) (by decide) (fun _ => ?_) rfl (fun _ => ?_)
      · skip
        refine r_aload_n (pc' := 24) hx (hd 11) rfl 0 rfl rfl ?_
        refine r_get (pc' := 27) (v := .ref (t + 179)) hx (hd 12) fl_11_57 ht rfl (by decide) rfl ?_
        have h5 := hL.1 _ _ _ ht 8 179 10 0 rfl
        refine r_aload_n (pc' := 28) hx (hd 13) rfl 0 rfl rfl ?_
        refine r_get (pc' := 31) (v := .ref (t + 1)) hx (hd 14) fl_11_12 ht rfl (by decide) rfl ?_
        have h6 := hL.1 _ _ _ ht 0 1 6 0 rfl
        refine r_aload_n (pc' := 32) hx (hd 15) rfl 0 rfl rfl ?_
        refine r_get (pc' := 35) (v := .ref (t + 1)) hx (hd 16) fl_11_12 ht rfl (by decide) rfl ?_
        have h7 := hL.1 _ _ _ ht 0 1 6 0 rfl
        refine r_get (pc' := 38) (v := .int (mI M (t + 1) 8)) hx (hd 17) fl_11_110 h7 rfl (by decide) rfl ?_
        refine r_aload_n (pc' := 39) hx (hd 18) rfl 0 rfl rfl ?_
        refine r_get (pc' := 42) (v := .ref (t + 1)) hx (hd 19) fl_11_12 ht rfl (by decide) rfl ?_
        have h8 := hL.1 _ _ _ ht 0 1 6 0 rfl
        refine r_get (pc' := 45) (v := .ref ((t + 1) + 1)) hx (hd 20) fl_11_113 h8 rfl (by decide) rfl ?_
        have h9 := hL.1 _ _ _ h8 0 1 8 0 rfl
        refine r_callVU (pc' := 48) (As := [.ref (t + 1), .int (mI M (t + 1) 8), .ref ((t + 1) + 1)]) (rest := []) hx (hd 21) md_X10_fit mi_X10_fit ms_X10_fit ml_11_116 (cX10_fit (xl x) w hL (t + 179) h5 (t + 1) h6 (mI M (t + 1) 8) ((t + 1) + 1) h9 M) h5 rfl (by decide) ⟨Nat.le_of_ble_eq_true rfl, Nat.le_of_ble_eq_true rfl⟩ rfl rfl (Nat.le_of_ble_eq_true rfl) rfl (fun M10 => ?_)
        refine r_aload_n (pc' := 49) hx (hd 22) rfl 0 rfl rfl ?_
        refine r_get (pc' := 52) (v := .ref (t + 228)) hx (hd 23) fl_11_81 ht rfl (by decide) rfl ?_
        have h11 := hL.1 _ _ _ ht 12 228 0 0 rfl
        refine r_iload_n (pc' := 53) hx (hd 24) rfl 1 rfl rfl ?_
        refine r_iload_n (pc' := 54) hx (hd 25) rfl 2 rfl rfl ?_
        refine r_ldc2 (pc' := 57) hx (hd 26) kc_11_326 rfl ?_
        refine r_aload_n (pc' := 58) hx (hd 27) rfl 0 rfl rfl ?_
        refine r_get (pc' := 61) (v := .ref (t + 1)) hx (hd 28) fl_11_12 ht rfl (by decide) rfl ?_
        have h12 := hL.1 _ _ _ ht 0 1 6 0 rfl
        refine r_get (pc' := 64) (v := .long (mJ M10 (t + 1) 5)) hx (hd 29) fl_11_138 h12 rfl (by decide) rfl ?_
        refine r_ldc2 (pc' := 67) hx (hd 30) kc_11_157 rfl ?_
        refine r_lxor (pc' := 68) hx (hd 31) rfl ?_
        refine r_land (pc' := 69) hx (hd 32) rfl ?_
        refine r_iload_n (pc' := 70) hx (hd 33) rfl 1 rfl rfl ?_
        refine r_callS (pc' := 73) (As := [.int p1]) (rest := [.long (4503599627370495 &&& ((mJ M10 (t + 1) 5) ^^^ (-1))), .int p2, .int p1, .ref (t + 228)]) hx (hd 34) md_X11_bit mst_X11_bit ml_11_231 (cX11_bit (xl x) w hL p1 M10) ⟨Nat.le_of_ble_eq_true rfl, Nat.le_of_ble_eq_true rfl⟩ rfl rfl (Nat.le_of_ble_eq_true rfl) (fun r13 => .long r13 :: [.long (4503599627370495 &&& ((mJ M10 (t + 1) 5) ^^^ (-1))), .int p2, .int p1, .ref (t + 228)]) (fun _ => M10) (fun _ => ⟨rfl, rfl⟩) rfl (fun r13 _ => ?_)
        refine r_ldc2 (pc' := 76) hx (hd 35) kc_11_157 rfl ?_
        refine r_lxor (pc' := 77) hx (hd 36) rfl ?_
        refine r_land (pc' := 78) hx (hd 37) rfl ?_
        refine r_iload_n (pc' := 79) hx (hd 38) rfl 2 rfl rfl ?_
        refine r_callS (pc' := 82) (As := [.int p2]) (rest := [.long ((4503599627370495 &&& ((mJ M10 (t + 1) 5) ^^^ (-1))) &&& (r13 ^^^ (-1))), .int p2, .int p1, .ref (t + 228)]) hx (hd 39) md_X11_bit mst_X11_bit ml_11_231 (cX11_bit (xl x) w hL p2 M10) ⟨Nat.le_of_ble_eq_true rfl, Nat.le_of_ble_eq_true rfl⟩ rfl rfl (Nat.le_of_ble_eq_true rfl) (fun r14 => .long r14 :: [.long ((4503599627370495 &&& ((mJ M10 (t + 1) 5) ^^^ (-1))) &&& (r13 ^^^ (-1))), .int p2, .int p1, .ref (t + 228)]) (fun _ => M10) (fun _ => ⟨rfl, rfl⟩) rfl (fun r14 _ => ?_)
        refine r_ldc2 (pc' := 85) hx (hd 40) kc_11_157 rfl ?_
        refine r_lxor (pc' := 86) hx (hd 41) rfl ?_
        refine r_land (pc' := 87) hx (hd 42) rfl ?_
        refine r_aload_n (pc' := 88) hx (hd 43) rfl 0 rfl rfl ?_
        refine r_get (pc' := 91) (v := .ref (t + 179)) hx (hd 44) fl_11_57 ht rfl (by decide) rfl ?_
        have h15 := hL.1 _ _ _ ht 8 179 10 0 rfl
        refine r_callVJ (pc' := 94) (As := [.int p1, .int p2, .long (((4503599627370495 &&& ((mJ M10 (t + 1) 5) ^^^ (-1))) &&& (r13 ^^^ (-1))) &&& (r14 ^^^ (-1))), .ref (t + 179)]) (rest := []) hx (hd 45) md_X0_of mi_X0_of ms_X0_of ml_11_328 (cX0_of (xl x) w hL (t + 228) h11 p1 p2 (((4503599627370495 &&& ((mJ M10 (t + 1) 5) ^^^ (-1))) &&& (r13 ^^^ (-1))) &&& (r14 ^^^ (-1))) (t + 179) h15 M10) h11 rfl (by decide) ⟨Nat.le_of_ble_eq_true rfl, Nat.le_of_ble_eq_true rfl⟩ rfl rfl (Nat.le_of_ble_eq_true rfl) (fun r17 => .long r17 :: []) (fun _ => rfl) rfl (fun r17 M16 => ?_)
        exact r_lret hx (hd 46) rfl rfl hz
      · skip
        refine r_sub [] rfl ?_
        exact hj3
abbrev yX11_takeHeld : MethodName := ({ cls := "CribbageRoom", name := "takeHeld", desc := "()V" } : Jvm.MethodName)
def tbX11_takeHeld : List (Nat × Instr × Nat) := [(0, .aload_n 0, 1), (1, .getfield 57, 3), (4, .aload_n 0, 1), (5, .getfield 12, 3), (8, .aload_n 0, 1), (9, .getfield 12, 3), (12, .getfield 110, 3), (15, .aload_n 0, 1), (16, .getfield 12, 3), (19, .getfield 113, 3), (22, .invokevirtual 116, 3), (25, .aload_n 0, 1), (26, .getfield 67, 3), (29, .aload_n 0, 1), (30, .getfield 12, 3), (33, .getfield 138, 3), (36, .iconst 0, 1), (37, .aload_n 0, 1), (38, .getfield 57, 3), (41, .invokevirtual 304, 3), (44, .return_, 1)]
theorem dX11_takeHeld : ∀ q ∈ tbX11_takeHeld, decode prog_1_method_44_code q.1 = .ok q.2 := by decide +kernel
set_option maxRecDepth 20000 in
theorem cX11_takeHeld (l : Launch) (w : WX) (hL : Lay w) (t : Nat) (ht : Wat w t 11 0) (M : Mem) : Ct l w yX11_takeHeld prog_1_method_44_code 1 (Option.none : Option FieldType) 6 156 evU emU [.ref t] M (FX11_takeHeld t M) := by
  refine ct_of (by decide) (Nat.le_of_ble_eq_true rfl) (fun x hl hx hb hz => ?_)
  subst hl
  have hd : ∀ i, DAt (xc x).code (tbX11_takeHeld[i]?) := fun i => by rw [hb]; exact dat_of dX11_takeHeld i
  show C x w (Qn x w evU emU) 1 0 [(0, .ref t)] [] M (FX11_takeHeld t M)
  unfold FX11_takeHeld
  refine r_aload_n (pc' := 1) hx (hd 0) rfl 0 rfl rfl ?_
  refine r_get (pc' := 4) (v := .ref (t + 179)) hx (hd 1) fl_11_57 ht rfl (by decide) rfl ?_
  have h1 := hL.1 _ _ _ ht 8 179 10 0 rfl
  refine r_aload_n (pc' := 5) hx (hd 2) rfl 0 rfl rfl ?_
  refine r_get (pc' := 8) (v := .ref (t + 1)) hx (hd 3) fl_11_12 ht rfl (by decide) rfl ?_
  have h2 := hL.1 _ _ _ ht 0 1 6 0 rfl
  refine r_aload_n (pc' := 9) hx (hd 4) rfl 0 rfl rfl ?_
  refine r_get (pc' := 12) (v := .ref (t + 1)) hx (hd 5) fl_11_12 ht rfl (by decide) rfl ?_
  have h3 := hL.1 _ _ _ ht 0 1 6 0 rfl
  refine r_get (pc' := 15) (v := .int (mI M (t + 1) 8)) hx (hd 6) fl_11_110 h3 rfl (by decide) rfl ?_
  refine r_aload_n (pc' := 16) hx (hd 7) rfl 0 rfl rfl ?_
  refine r_get (pc' := 19) (v := .ref (t + 1)) hx (hd 8) fl_11_12 ht rfl (by decide) rfl ?_
  have h4 := hL.1 _ _ _ ht 0 1 6 0 rfl
  refine r_get (pc' := 22) (v := .ref ((t + 1) + 1)) hx (hd 9) fl_11_113 h4 rfl (by decide) rfl ?_
  have h5 := hL.1 _ _ _ h4 0 1 8 0 rfl
  refine r_callVU (pc' := 25) (As := [.ref (t + 1), .int (mI M (t + 1) 8), .ref ((t + 1) + 1)]) (rest := []) hx (hd 10) md_X10_fit mi_X10_fit ms_X10_fit ml_11_116 (cX10_fit (xl x) w hL (t + 179) h1 (t + 1) h2 (mI M (t + 1) 8) ((t + 1) + 1) h5 M) h1 rfl (by decide) ⟨Nat.le_of_ble_eq_true rfl, Nat.le_of_ble_eq_true rfl⟩ rfl rfl (Nat.le_of_ble_eq_true rfl) rfl (fun M6 => ?_)
  refine r_aload_n (pc' := 26) hx (hd 11) rfl 0 rfl rfl ?_
  refine r_get (pc' := 29) (v := .ref (t + 203)) hx (hd 12) fl_11_67 ht rfl (by decide) rfl ?_
  have h7 := hL.1 _ _ _ ht 10 203 2 0 rfl
  refine r_aload_n (pc' := 30) hx (hd 13) rfl 0 rfl rfl ?_
  refine r_get (pc' := 33) (v := .ref (t + 1)) hx (hd 14) fl_11_12 ht rfl (by decide) rfl ?_
  have h8 := hL.1 _ _ _ ht 0 1 6 0 rfl
  refine r_get (pc' := 36) (v := .long (mJ M6 (t + 1) 5)) hx (hd 15) fl_11_138 h8 rfl (by decide) rfl ?_
  refine r_iconst (pc' := 37) (v := 0) hx (hd 16) (by decide) rfl ?_
  refine r_aload_n (pc' := 38) hx (hd 17) rfl 0 rfl rfl ?_
  refine r_get (pc' := 41) (v := .ref (t + 179)) hx (hd 18) fl_11_57 ht rfl (by decide) rfl ?_
  have h9 := hL.1 _ _ _ ht 8 179 10 0 rfl
  refine r_callVU (pc' := 44) (As := [.long (mJ M6 (t + 1) 5), .int 0, .ref (t + 179)]) (rest := []) hx (hd 19) md_X2_take mi_X2_take ms_X2_take ml_11_304 (cX2_take (xl x) w hL (t + 203) h7 (mJ M6 (t + 1) 5) 0 (t + 179) h9 M6) h7 rfl (by decide) ⟨Nat.le_of_ble_eq_true rfl, Nat.le_of_ble_eq_true rfl⟩ rfl rfl (Nat.le_of_ble_eq_true rfl) rfl (fun M10 => ?_)
  exact r_vret hx (hd 20) rfl rfl hz
abbrev yX11_byStarters : MethodName := ({ cls := "CribbageRoom", name := "byStarters", desc := "(I)I" } : Jvm.MethodName)
def tbX11_byStarters : List (Nat × Instr × Nat) := [(0, .iload_n 1, 1), (1, .ifCond .lt 24, 3), (4, .iload_n 1, 1), (5, .sipush 999, 3), (8, .if_icmp .gt 17, 3), (11, .aload_n 0, 1), (12, .getfield 12, 3), (15, .getfield 138, 3), (18, .invokestatic 148, 3), (21, .iconst 4, 1), (22, .if_icmp .eq 5, 3), (25, .iconst (-1), 1), (26, .ireturn, 1), (27, .aload_n 0, 1), (28, .invokevirtual 332, 3), (31, .iconst 0, 1), (32, .istore_n 2, 1), (33, .iconst 0, 1), (34, .istore_n 3, 1), (35, .iload_n 3, 1), (36, .bipush 52, 2), (38, .if_icmp .ge 39, 3), (41, .aload_n 0, 1), (42, .getfield 12, 3), (45, .getfield 138, 3), (48, .iload_n 3, 1), (49, .invokestatic 128, 3), (52, .ifCond .ne 19, 3), (55, .aload_n 0, 1), (56, .getfield 67, 3), (59, .iload_n 3, 1), (60, .iconst 0, 1), (61, .invokevirtual 308, 3), (64, .iload_n 1, 1), (65, .if_icmp .lt 6, 3), (68, .iinc 2 1, 3), (71, .iinc 3 1, 3), (74, .goto (-39), 3), (77, .iload_n 2, 1), (78, .ireturn, 1)]
theorem dX11_byStarters : ∀ q ∈ tbX11_byStarters, decode prog_1_method_26_code q.1 = .ok q.2 := by decide +kernel
set_option maxRecDepth 20000 in
theorem cX11_byStarters (l : Launch) (w : WX) (hL : Lay w) (t : Nat) (ht : Wat w t 11 0) (p1 : Int32) (M : Mem) : Ct l w yX11_byStarters prog_1_method_26_code 4 (Option.some FieldType.int) 7 176 evIM emM [.ref t, .int p1] M (FX11_byStarters t p1 M) := by
  refine ct_of (by decide) (Nat.le_of_ble_eq_true rfl) (fun x hl hx hb hz => ?_)
  subst hl
  have hd : ∀ i, DAt (xc x).code (tbX11_byStarters[i]?) := fun i => by rw [hb]; exact dat_of dX11_byStarters i
  show C x w (Qn x w evIM emM) 4 0 [(0, .ref t), (1, .int p1)] [] M (FX11_byStarters t p1 M)
  unfold FX11_byStarters
  refine r_iload_n (pc' := 1) hx (hd 0) rfl 1 rfl rfl ?_
  refine r_jn0 25 ([]) ([]) (M) (?_) (fun j1 hj2 => ?_)
  · skip
    refine r_iconst (pc' := 26) (v := (-1)) hx (hd 11) (by decide) rfl ?_
    exact r_iret hx (hd 12) rfl rfl hz
  refine r_if_lt (tgt := 25) (pc' := 4) hx (hd 1) (by decide) (fun _ => ?_) rfl (fun _ => ?_)
  · skip
    refine r_sub [] rfl ?_
    exact hj2
  · skip
    refine r_iload_n (pc' := 5) hx (hd 2) rfl 1 rfl rfl ?_
    refine r_sipush (pc' := 8) (v := 999) hx (hd 3) (by decide) rfl ?_
    refine r_icmp_gt (tgt := 25) (pc' := 11) hx (hd 4) (by decide) (fun _ => ?_) rfl (fun _ => ?_)
    · skip
      refine r_sub [] rfl ?_
      exact hj2
    · skip
      refine r_aload_n (pc' := 12) hx (hd 5) rfl 0 rfl rfl ?_
      refine r_get (pc' := 15) (v := .ref (t + 1)) hx (hd 6) fl_11_12 ht rfl (by decide) rfl ?_
      have h3 := hL.1 _ _ _ ht 0 1 6 0 rfl
      refine r_get (pc' := 18) (v := .long (mJ M (t + 1) 5)) hx (hd 7) fl_11_138 h3 rfl (by decide) rfl ?_
      refine r_callS (pc' := 21) (As := [.long (mJ M (t + 1) 5)]) (rest := []) hx (hd 8) md_J_Long_bitCount mst_J_Long_bitCount ml_11_148 (cJ_Long_bitCount (xl x) w hL (mJ M (t + 1) 5) M) ⟨Nat.le_of_ble_eq_true rfl, Nat.le_of_ble_eq_true rfl⟩ rfl rfl (Nat.le_of_ble_eq_true rfl) (fun r4 => .int r4 :: []) (fun _ => M) (fun _ => ⟨rfl, rfl⟩) rfl (fun r4 _ => ?_)
      refine r_iconst (pc' := 22) (v := 4) hx (hd 9) (by decide) rfl ?_
      refine r_icmp_eq (tgt := 27) (pc' := 25) hx (hd 10) (by decide) (fun _ => ?_) rfl (fun _ => ?_)
      · skip
        refine r_aload_n (pc' := 28) hx (hd 13) rfl 0 rfl rfl ?_
        refine r_callVU (pc' := 31) (As := []) (rest := []) hx (hd 14) md_X11_takeHeld mi_X11_takeHeld ms_X11_takeHeld ml_11_332 (cX11_takeHeld (xl x) w hL t ht M) ht rfl (by decide) ⟨Nat.le_of_ble_eq_true rfl, Nat.le_of_ble_eq_true rfl⟩ rfl rfl (Nat.le_of_ble_eq_true rfl) rfl (fun M5 => ?_)
        refine r_iconst (pc' := 32) (v := 0) hx (hd 15) (by decide) rfl ?_
        refine r_istore_n (pc' := 33) (L' := [(2, .int 0), (0, .ref t), (1, .int p1)]) hx (hd 16) rfl (by decide) rfl rfl ?_
        refine r_iconst (pc' := 34) (v := 0) hx (hd 17) (by decide) rfl ?_
        refine r_istore_n (pc' := 35) (L' := [(3, .int 0), (2, .int 0), (0, .ref t), (1, .int p1)]) hx (hd 18) rfl (by decide) rfl rfl ?_
        refine r_sub [2, 3, 1, 0] rfl ?_
        refine r_wl2 (fun v6 v7 => [(0, .ref t), (1, .int p1), (2, .int v6), (3, .int v7)]) (fun v6 v7 => []) (fun v6 v7 => M5) (fun v6 v7 rec8 ih9 => ?_) fuel 0 0
        refine r_iload_n (pc' := 36) hx (hd 19) rfl 3 rfl rfl ?_
        refine r_bipush (pc' := 38) (v := 52) hx (hd 20) (by decide) rfl ?_
        refine r_icmp_ge (tgt := 77) (pc' := 41) hx (hd 21) (by decide) (fun _ => ?_) rfl (fun _ => ?_)
        · skip
          refine r_iload_n (pc' := 78) hx (hd 38) rfl 2 rfl rfl ?_
          exact r_iret hx (hd 39) rfl rfl hz
        · skip
          refine r_aload_n (pc' := 42) hx (hd 22) rfl 0 rfl rfl ?_
          refine r_get (pc' := 45) (v := .ref (t + 1)) hx (hd 23) fl_11_12 ht rfl (by decide) rfl ?_
          have h10 := hL.1 _ _ _ ht 0 1 6 0 rfl
          refine r_get (pc' := 48) (v := .long (mJ M5 (t + 1) 5)) hx (hd 24) fl_11_138 h10 rfl (by decide) rfl ?_
          refine r_iload_n (pc' := 49) hx (hd 25) rfl 3 rfl rfl ?_
          refine r_callS (pc' := 52) (As := [.long (mJ M5 (t + 1) 5), .int v7]) (rest := []) hx (hd 26) md_X11_has mst_X11_has ml_11_128 (cX11_has (xl x) w hL (mJ M5 (t + 1) 5) v7 M5) ⟨Nat.le_of_ble_eq_true rfl, Nat.le_of_ble_eq_true rfl⟩ rfl rfl (Nat.le_of_ble_eq_true rfl) (fun r11 => .int r11 :: []) (fun _ => M5) (fun _ => ⟨rfl, rfl⟩) rfl (fun r11 _ => ?_)
          refine r_jn1 71 (fun v12 => [(0, .ref t), (1, .int p1), (2, .int v12), (3, .int v7)]) (fun v12 => []) (fun v12 => M5) (fun v12 => ?_) (fun j13 hj14 => ?_)
          · skip
            refine r_iinc (pc' := 74) (v := 1) hx (hd 36) 3 rfl (by decide) (by decide) (fun v15 => [(3, .int v15), (0, .ref t), (1, .int p1), (2, .int v12)]) (fun _ => rfl) rfl (fun v15 => ?_)
            refine r_goto (tgt := 35) hx (hd 37) (by decide) ?_
            refine r_sub [1, 2, 3, 0] rfl ?_
            exact ih9 v12 v15
          refine r_if_ne (tgt := 71) (pc' := 55) hx (hd 27) (by decide) (fun _ => ?_) rfl (fun _ => ?_)
          · skip
            exact hj14 v6
          · skip
            refine r_aload_n (pc' := 56) hx (hd 28) rfl 0 rfl rfl ?_
            refine r_get (pc' := 59) (v := .ref (t + 203)) hx (hd 29) fl_11_67 ht rfl (by decide) rfl ?_
            have h16 := hL.1 _ _ _ ht 10 203 2 0 rfl
            refine r_iload_n (pc' := 60) hx (hd 30) rfl 3 rfl rfl ?_
            refine r_iconst (pc' := 61) (v := 0) hx (hd 31) (by decide) rfl ?_
            refine r_callV (pc' := 64) (As := [.int v7, .int 0]) (rest := []) hx (hd 32) md_X2_part mi_X2_part ms_X2_part ml_11_308 (cX2_part (xl x) w hL (t + 203) h16 v7 0 M5) h16 rfl (by decide) ⟨Nat.le_of_ble_eq_true rfl, Nat.le_of_ble_eq_true rfl⟩ rfl rfl (Nat.le_of_ble_eq_true rfl) (fun r17 => .int r17 :: []) (fun _ => M5) (fun _ => ⟨rfl, rfl⟩) rfl (fun r17 _ => ?_)
            refine r_iload_n (pc' := 65) hx (hd 33) rfl 1 rfl rfl ?_
            refine r_icmp_lt (tgt := 71) (pc' := 68) hx (hd 34) (by decide) (fun _ => ?_) rfl (fun _ => ?_)
            · skip
              exact hj14 v6
            · skip
              refine r_iinc (pc' := 71) (v := 1) hx (hd 35) 2 rfl (by decide) (by decide) (fun v18 => [(2, .int v18), (0, .ref t), (1, .int p1), (3, .int v7)]) (fun _ => rfl) rfl (fun v18 => ?_)
              refine r_sub [1, 2, 0, 3] rfl ?_
              exact hj14 v18
      · skip
        refine r_sub [] rfl ?_
        exact hj2
abbrev yX11_bestStarter : MethodName := ({ cls := "CribbageRoom", name := "bestStarter", desc := "(I)I" } : Jvm.MethodName)
def tbX11_bestStarter : List (Nat × Instr × Nat) := [(0, .iload_n 1, 1), (1, .ifCond .lt 22, 3), (4, .iload_n 1, 1), (5, .iconst 1, 1), (6, .if_icmp .gt 17, 3), (9, .aload_n 0, 1), (10, .getfield 12, 3), (13, .getfield 138, 3), (16, .invokestatic 148, 3), (19, .iconst 4, 1), (20, .if_icmp .eq 5, 3), (23, .iconst (-1), 1), (24, .ireturn, 1), (25, .aload_n 0, 1), (26, .invokevirtual 332, 3), (29, .iconst (-1), 1), (30, .istore_n 2, 1), (31, .iconst (-1), 1), (32, .istore_n 3, 1), (33, .iconst 0, 1), (34, .istore 4, 2), (36, .iload 4, 2), (38, .bipush 52, 2), (40, .if_icmp .ge 52, 3), (43, .aload_n 0, 1), (44, .getfield 12, 3), (47, .getfield 138, 3), (50, .iload 4, 2), (52, .invokestatic 128, 3), (55, .ifCond .ne 31, 3), (58, .aload_n 0, 1), (59, .getfield 67, 3), (62, .iload 4, 2), (64, .iconst 0, 1), (65, .invokevirtual 308, 3), (68, .iload_n 3, 1), (69, .if_icmp .le 17, 3), (72, .iload 4, 2), (74, .istore_n 2, 1), (75, .aload_n 0, 1), (76, .getfield 67, 3), (79, .iload 4, 2), (81, .iconst 0, 1), (82, .invokevirtual 308, 3), (85, .istore_n 3, 1), (86, .iinc 4 1, 3), (89, .goto (-53), 3), (92, .iload_n 1, 1), (93, .ifCond .ne 7, 3), (96, .iload_n 2, 1), (97, .goto 4, 3), (100, .iload_n 3, 1), (101, .ireturn, 1)]
theorem dX11_bestStarter : ∀ q ∈ tbX11_bestStarter, decode prog_1_method_27_code q.1 = .ok q.2 := by decide +kernel
set_option maxRecDepth 20000 in
theorem cX11_bestStarter (l : Launch) (w : WX) (hL : Lay w) (t : Nat) (ht : Wat w t 11 0) (p1 : Int32) (M : Mem) : Ct l w yX11_bestStarter prog_1_method_27_code 5 (Option.some FieldType.int) 7 176 evIM emM [.ref t, .int p1] M (FX11_bestStarter t p1 M) := by
  refine ct_of (by decide) (Nat.le_of_ble_eq_true rfl) (fun x hl hx hb hz => ?_)
  subst hl
  have hd : ∀ i, DAt (xc x).code (tbX11_bestStarter[i]?) := fun i => by rw [hb]; exact dat_of dX11_bestStarter i
  show C x w (Qn x w evIM emM) 5 0 [(0, .ref t), (1, .int p1)] [] M (FX11_bestStarter t p1 M)
  unfold FX11_bestStarter
  refine r_iload_n (pc' := 1) hx (hd 0) rfl 1 rfl rfl ?_
  refine r_jn0 23 ([]) ([]) (M) (?_) (fun j1 hj2 => ?_)
  · skip
    refine r_iconst (pc' := 24) (v := (-1)) hx (hd 11) (by decide) rfl ?_
    exact r_iret hx (hd 12) rfl rfl hz
  refine r_if_lt (tgt := 23) (pc' := 4) hx (hd 1) (by decide) (fun _ => ?_) rfl (fun _ => ?_)
  · skip
    refine r_sub [] rfl ?_
    exact hj2
  · skip
    refine r_iload_n (pc' := 5) hx (hd 2) rfl 1 rfl rfl ?_
    refine r_iconst (pc' := 6) (v := 1) hx (hd 3) (by decide) rfl ?_
    refine r_icmp_gt (tgt := 23) (pc' := 9) hx (hd 4) (by decide) (fun _ => ?_) rfl (fun _ => ?_)
    · skip
      refine r_sub [] rfl ?_
      exact hj2
    · skip
      refine r_aload_n (pc' := 10) hx (hd 5) rfl 0 rfl rfl ?_
      refine r_get (pc' := 13) (v := .ref (t + 1)) hx (hd 6) fl_11_12 ht rfl (by decide) rfl ?_
      have h3 := hL.1 _ _ _ ht 0 1 6 0 rfl
      refine r_get (pc' := 16) (v := .long (mJ M (t + 1) 5)) hx (hd 7) fl_11_138 h3 rfl (by decide) rfl ?_
      refine r_callS (pc' := 19) (As := [.long (mJ M (t + 1) 5)]) (rest := []) hx (hd 8) md_J_Long_bitCount mst_J_Long_bitCount ml_11_148 (cJ_Long_bitCount (xl x) w hL (mJ M (t + 1) 5) M) ⟨Nat.le_of_ble_eq_true rfl, Nat.le_of_ble_eq_true rfl⟩ rfl rfl (Nat.le_of_ble_eq_true rfl) (fun r4 => .int r4 :: []) (fun _ => M) (fun _ => ⟨rfl, rfl⟩) rfl (fun r4 _ => ?_)
      refine r_iconst (pc' := 20) (v := 4) hx (hd 9) (by decide) rfl ?_
      refine r_icmp_eq (tgt := 25) (pc' := 23) hx (hd 10) (by decide) (fun _ => ?_) rfl (fun _ => ?_)
      · skip
        refine r_aload_n (pc' := 26) hx (hd 13) rfl 0 rfl rfl ?_
        refine r_callVU (pc' := 29) (As := []) (rest := []) hx (hd 14) md_X11_takeHeld mi_X11_takeHeld ms_X11_takeHeld ml_11_332 (cX11_takeHeld (xl x) w hL t ht M) ht rfl (by decide) ⟨Nat.le_of_ble_eq_true rfl, Nat.le_of_ble_eq_true rfl⟩ rfl rfl (Nat.le_of_ble_eq_true rfl) rfl (fun M5 => ?_)
        refine r_iconst (pc' := 30) (v := (-1)) hx (hd 15) (by decide) rfl ?_
        refine r_istore_n (pc' := 31) (L' := [(2, .int (-1)), (0, .ref t), (1, .int p1)]) hx (hd 16) rfl (by decide) rfl rfl ?_
        refine r_iconst (pc' := 32) (v := (-1)) hx (hd 17) (by decide) rfl ?_
        refine r_istore_n (pc' := 33) (L' := [(3, .int (-1)), (2, .int (-1)), (0, .ref t), (1, .int p1)]) hx (hd 18) rfl (by decide) rfl rfl ?_
        refine r_iconst (pc' := 34) (v := 0) hx (hd 19) (by decide) rfl ?_
        refine r_istore (pc' := 36) (L' := [(4, .int 0), (3, .int (-1)), (2, .int (-1)), (0, .ref t), (1, .int p1)]) hx (hd 20) (by decide) rfl rfl ?_
        refine r_sub [3, 4, 2, 1, 0] rfl ?_
        refine r_wl3 (fun v6 v7 v8 => [(0, .ref t), (1, .int p1), (2, .int v6), (3, .int v7), (4, .int v8)]) (fun v6 v7 v8 => []) (fun v6 v7 v8 => M5) (fun v6 v7 v8 rec9 ih10 => ?_) fuel (-1) (-1) 0
        refine r_iload (pc' := 38) hx (hd 21) 4 rfl rfl ?_
        refine r_bipush (pc' := 40) (v := 52) hx (hd 22) (by decide) rfl ?_
        refine r_icmp_ge (tgt := 92) (pc' := 43) hx (hd 23) (by decide) (fun _ => ?_) rfl (fun _ => ?_)
        · skip
          refine r_iload_n (pc' := 93) hx (hd 47) rfl 1 rfl rfl ?_
          refine r_jn1 101 (fun v11 => []) (fun v11 => [.int v11]) (fun v11 => M5) (fun v11 => ?_) (fun j12 hj13 => ?_)
          · skip
            exact r_iret hx (hd 52) rfl rfl hz
          refine r_if_ne (tgt := 100) (pc' := 96) hx (hd 48) (by decide) (fun _ => ?_) rfl (fun _ => ?_)
          · skip
            refine r_iload_n (pc' := 101) hx (hd 51) rfl 3 rfl rfl ?_
            refine r_sub [] rfl ?_
            exact hj13 v7
          · skip
            refine r_iload_n (pc' := 97) hx (hd 49) rfl 2 rfl rfl ?_
            refine r_goto (tgt := 101) hx (hd 50) (by decide) ?_
            refine r_sub [] rfl ?_
            exact hj13 v6
        · skip
          refine r_aload_n (pc' := 44) hx (hd 24) rfl 0 rfl rfl ?_
          refine r_get (pc' := 47) (v := .ref (t + 1)) hx (hd 25) fl_11_12 ht rfl (by decide) rfl ?_
          have h14 := hL.1 _ _ _ ht 0 1 6 0 rfl
          refine r_get (pc' := 50) (v := .long (mJ M5 (t + 1) 5)) hx (hd 26) fl_11_138 h14 rfl (by decide) rfl ?_
          refine r_iload (pc' := 52) hx (hd 27) 4 rfl rfl ?_
          refine r_callS (pc' := 55) (As := [.long (mJ M5 (t + 1) 5), .int v8]) (rest := []) hx (hd 28) md_X11_has mst_X11_has ml_11_128 (cX11_has (xl x) w hL (mJ M5 (t + 1) 5) v8 M5) ⟨Nat.le_of_ble_eq_true rfl, Nat.le_of_ble_eq_true rfl⟩ rfl rfl (Nat.le_of_ble_eq_true rfl) (fun r15 => .int r15 :: []) (fun _ => M5) (fun _ => ⟨rfl, rfl⟩) rfl (fun r15 _ => ?_)
          refine r_jn2 86 (fun v16 v17 => [(0, .ref t), (1, .int p1), (2, .int v16), (3, .int v17), (4, .int v8)]) (fun v16 v17 => []) (fun v16 v17 => M5) (fun v16 v17 => ?_) (fun j18 hj19 => ?_)
          · skip
            refine r_iinc (pc' := 89) (v := 1) hx (hd 45) 4 rfl (by decide) (by decide) (fun v20 => [(4, .int v20), (0, .ref t), (1, .int p1), (2, .int v16), (3, .int v17)]) (fun _ => rfl) rfl (fun v20 => ?_)
            refine r_goto (tgt := 36) hx (hd 46) (by decide) ?_
            refine r_sub [1, 2, 3, 4, 0] rfl ?_
            exact ih10 v16 v17 v20
          refine r_if_ne (tgt := 86) (pc' := 58) hx (hd 29) (by decide) (fun _ => ?_) rfl (fun _ => ?_)
          · skip
            exact hj19 v6 v7
          · skip
            refine r_aload_n (pc' := 59) hx (hd 30) rfl 0 rfl rfl ?_
            refine r_get (pc' := 62) (v := .ref (t + 203)) hx (hd 31) fl_11_67 ht rfl (by decide) rfl ?_
            have h21 := hL.1 _ _ _ ht 10 203 2 0 rfl
            refine r_iload (pc' := 64) hx (hd 32) 4 rfl rfl ?_
            refine r_iconst (pc' := 65) (v := 0) hx (hd 33) (by decide) rfl ?_
            refine r_callV (pc' := 68) (As := [.int v8, .int 0]) (rest := []) hx (hd 34) md_X2_part mi_X2_part ms_X2_part ml_11_308 (cX2_part (xl x) w hL (t + 203) h21 v8 0 M5) h21 rfl (by decide) ⟨Nat.le_of_ble_eq_true rfl, Nat.le_of_ble_eq_true rfl⟩ rfl rfl (Nat.le_of_ble_eq_true rfl) (fun r22 => .int r22 :: []) (fun _ => M5) (fun _ => ⟨rfl, rfl⟩) rfl (fun r22 _ => ?_)
            refine r_iload_n (pc' := 69) hx (hd 35) rfl 3 rfl rfl ?_
            refine r_icmp_le (tgt := 86) (pc' := 72) hx (hd 36) (by decide) (fun _ => ?_) rfl (fun _ => ?_)
            · skip
              exact hj19 v6 v7
            · skip
              refine r_iload (pc' := 74) hx (hd 37) 4 rfl rfl ?_
              refine r_istore_n (pc' := 75) (L' := [(2, .int v8), (0, .ref t), (1, .int p1), (3, .int v7), (4, .int v8)]) hx (hd 38) rfl (by decide) rfl rfl ?_
              refine r_aload_n (pc' := 76) hx (hd 39) rfl 1 rfl rfl ?_
              refine r_get (pc' := 79) (v := .ref (t + 203)) hx (hd 40) fl_11_67 ht rfl (by decide) rfl ?_
              have h23 := hL.1 _ _ _ ht 10 203 2 0 rfl
              refine r_iload (pc' := 81) hx (hd 41) 4 rfl rfl ?_
              refine r_iconst (pc' := 82) (v := 0) hx (hd 42) (by decide) rfl ?_
              refine r_callV (pc' := 85) (As := [.int v8, .int 0]) (rest := []) hx (hd 43) md_X2_part mi_X2_part ms_X2_part ml_11_308 (cX2_part (xl x) w hL (t + 203) h23 v8 0 M5) h23 rfl (by decide) ⟨Nat.le_of_ble_eq_true rfl, Nat.le_of_ble_eq_true rfl⟩ rfl rfl (Nat.le_of_ble_eq_true rfl) (fun r24 => .int r24 :: []) (fun _ => M5) (fun _ => ⟨rfl, rfl⟩) rfl (fun r24 _ => ?_)
              refine r_istore_n (pc' := 86) (L' := [(3, .int r24), (2, .int v8), (0, .ref t), (1, .int p1), (4, .int v8)]) hx (hd 44) rfl (by decide) rfl rfl ?_
              refine r_sub [2, 3, 1, 0, 4] rfl ?_
              exact hj19 v8 r24
      · skip
        refine r_sub [] rfl ?_
        exact hj2
abbrev yX1_best : MethodName := ({ cls := "CribbageRoom$Ending", name := "best", desc := "(ILCribbageRoom$Worth;)I" } : Jvm.MethodName)
def tbX1_best : List (Nat × Instr × Nat) := [(0, .iload_n 1, 1), (1, .ifCond .lt 27, 3), (4, .iload_n 1, 1), (5, .iconst 1, 1), (6, .iadd, 1), (7, .aload_n 0, 1), (8, .getfield 11, 3), (11, .arraylength, 1), (12, .if_icmp .ge 16, 3), (15, .aload_n 0, 1), (16, .getfield 11, 3), (19, .iload_n 1, 1), (20, .aaload, 1), (21, .getfield 26, 3), (24, .iconst (-1), 1), (25, .if_icmp .ne 5, 3), (28, .iconst 0, 1), (29, .ireturn, 1), (30, .aload_n 0, 1), (31, .getfield 11, 3), (34, .iload_n 1, 1), (35, .aaload, 1), (36, .astore_n 3, 1), (37, .aload_n 0, 1), (38, .getfield 11, 3), (41, .iload_n 1, 1), (42, .iconst 1, 1), (43, .iadd, 1), (44, .aaload, 1), (45, .astore 4, 2), (47, .aload_n 3, 1), (48, .aload_n 3, 1), (49, .getfield 26, 3), (52, .aload_n 2, 1), (53, .invokevirtual 30, 3), (56, .lstore 5, 2), (58, .ldc 34, 2), (60, .istore 7, 2), (62, .iconst 0, 1), (63, .istore 8, 2), (65, .iload 8, 2), (67, .bipush 6, 2), (69, .if_icmp .ge 104, 3), (72, .lload 5, 2), (74, .lconst 0, 1), (75, .lcmp, 1), (76, .ifCond .eq 97, 3), (79, .lload 5, 2), (81, .invokestatic 35, 3), (84, .istore 9, 2), (86, .lload 5, 2), (88, .lload 5, 2), (90, .lconst 1, 1), (91, .lsub, 1), (92, .land, 1), (93, .lstore 5, 2), (95, .aload 4, 2), (97, .aload_n 3, 1), (98, .invokevirtual 18, 3), (101, .aload 4, 2), (103, .iload 9, 2), (105, .aload_n 2, 1), (106, .invokevirtual 39, 3), (109, .istore 10, 2), (111, .aload_n 0, 1), (112, .iload_n 1, 1), (113, .iconst 1, 1), (114, .iadd, 1), (115, .aload_n 2, 1), (116, .invokevirtual 22, 3), (119, .istore 11, 2), (121, .iload 10, 2), (123, .aload 4, 2), (125, .getfield 26, 3), (128, .aload_n 3, 1), (129, .getfield 26, 3), (132, .if_icmp .ne 8, 3), (135, .iload 11, 2), (137, .goto 6, 3), (140, .iload 11, 2), (142, .ineg, 1), (143, .iadd, 1), (144, .istore 12, 2), (146, .iload 12, 2), (148, .iload 7, 2), (150, .if_icmp .le 17, 3), (153, .iload 12, 2), (155, .istore 7, 2), (157, .iload_n 1, 1), (158, .ifCond .ne 9, 3), (161, .aload_n 0, 1), (162, .iload 9, 2), (164, .putfield 42, 3), (167, .iinc 8 1, 3), (170, .goto (-105), 3), (173, .iload 7, 2), (175, .ireturn, 1)]
theorem dX1_best : ∀ q ∈ tbX1_best, decode prog_3_method_3_code q.1 = .ok q.2 := by decide +kernel
set_option maxRecDepth 20000 in
theorem cX1_best (l : Launch) (w : WX) (hL : Lay w) (t : Nat) (ht : Wat w t 1 0) (p1 : Int32) (p2 : Nat) (hp2 : Wat w p2 10 0) (rB : Nat → Int32 → Nat → Mem → Option (Int32 × Mem)) (frB loB : Nat) (hB : ∀ (t : Nat) (_ : Wat w t 1 0) (p1 : Int32) (p2 : Nat) (_ : Wat w p2 10 0) (M : Mem), Ct l w ({ cls := "CribbageRoom$Ending", name := "best", desc := "(ILCribbageRoom$Worth;)I" } : Jvm.MethodName) prog_3_method_3_code 13 (Option.some FieldType.int) frB loB evIM emM [.ref t, .int p1, .ref p2] M (rB t p1 p2 M)) (M : Mem) : Ct l w yX1_best prog_3_method_3_code 13 (Option.some FieldType.int) (frB + 5) (loB + 116) evIM emM [.ref t, .int p1, .ref p2] M (FX1_best t p1 p2 rB M) := by
  refine ct_of (by decide) (Nat.le_of_ble_eq_true rfl) (fun x hl hx hb hz => ?_)
  subst hl
  have hd : ∀ i, DAt (xc x).code (tbX1_best[i]?) := fun i => by rw [hb]; exact dat_of dX1_best i
  show C x w (Qn x w evIM emM) 13 0 [(0, .ref t), (1, .int p1), (2, .ref p2)] [] M (FX1_best t p1 p2 rB M)
  unfold FX1_best
  refine r_iload_n (pc' := 1) hx (hd 0) rfl 1 rfl rfl ?_
  refine r_jn0 28 ([]) ([]) (M) (?_) (fun j1 hj2 => ?_)
  · skip
    refine r_iconst (pc' := 29) (v := 0) hx (hd 16) (by decide) rfl ?_
    exact r_iret hx (hd 17) rfl rfl hz
  refine r_if_lt (tgt := 28) (pc' := 4) hx (hd 1) (by decide) (fun _ => ?_) rfl (fun _ => ?_)
  · skip
    refine r_sub [] rfl ?_
    exact hj2
  · skip
    refine r_iload_n (pc' := 5) hx (hd 2) rfl 1 rfl rfl ?_
    refine r_iconst (pc' := 6) (v := 1) hx (hd 3) (by decide) rfl ?_
    refine r_iadd (pc' := 7) hx (hd 4) rfl ?_
    refine r_aload_n (pc' := 8) hx (hd 5) rfl 0 rfl rfl ?_
    refine r_get (pc' := 11) (v := .ref (t + 1)) hx (hd 6) fl_1_11 ht rfl (by decide) rfl ?_
    have h3 := hL.1 _ _ _ ht 0 1 31 9 rfl
    refine r_alenA (pc' := 12) (v := 9) hx (hd 7) h3 rfl rfl (by decide) rfl ?_
    refine r_icmp_ge (tgt := 28) (pc' := 15) hx (hd 8) (by decide) (fun _ => ?_) rfl (fun _ => ?_)
    · skip
      refine r_sub [] rfl ?_
      exact hj2
    · skip
      refine r_aload_n (pc' := 16) hx (hd 9) rfl 0 rfl rfl ?_
      refine r_get (pc' := 19) (v := .ref (t + 1)) hx (hd 10) fl_1_11 ht rfl (by decide) rfl ?_
      have h4 := hL.1 _ _ _ ht 0 1 31 9 rfl
      refine r_iload_n (pc' := 20) hx (hd 11) rfl 1 rfl rfl ?_
      refine r_gd (fun h5 => ?_)
      refine r_aald (pc' := 21) (k := ix p1) hx (hd 12) h4 rfl rfl rfl h5 rfl rfl ?_
      have h6 := hL.2 _ _ _ h4 3 1 4 8 0 rfl (ix p1) (inb_lt h5)
      refine r_get (pc' := 24) (v := .int (mI M ((t + 1) + 1 + 4 * (ix p1)) 10)) hx (hd 13) fl_1_26 h6 rfl (by decide) rfl ?_
      refine r_iconst (pc' := 25) (v := (-1)) hx (hd 14) (by decide) rfl ?_
      refine r_icmp_ne (tgt := 30) (pc' := 28) hx (hd 15) (by decide) (fun _ => ?_) rfl (fun _ => ?_)
      · skip
        refine r_aload_n (pc' := 31) hx (hd 18) rfl 0 rfl rfl ?_
        refine r_get (pc' := 34) (v := .ref (t + 1)) hx (hd 19) fl_1_11 ht rfl (by decide) rfl ?_
        have h7 := hL.1 _ _ _ ht 0 1 31 9 rfl
        refine r_iload_n (pc' := 35) hx (hd 20) rfl 1 rfl rfl ?_
        refine r_gd (fun h8 => ?_)
        refine r_aald (pc' := 36) (k := ix p1) hx (hd 21) h7 rfl rfl rfl h8 rfl rfl ?_
        have h9 := hL.2 _ _ _ h7 3 1 4 8 0 rfl (ix p1) (inb_lt h8)
        refine r_astore_n (pc' := 37) (L' := [(3, .ref ((t + 1) + 1 + 4 * (ix p1))), (0, .ref t), (1, .int p1), (2, .ref p2)]) hx (hd 22) rfl (by decide) rfl rfl ?_
        refine r_aload_n (pc' := 38) hx (hd 23) rfl 1 rfl rfl ?_
        refine r_get (pc' := 41) (v := .ref (t + 1)) hx (hd 24) fl_1_11 ht rfl (by decide) rfl ?_
        have h10 := hL.1 _ _ _ ht 0 1 31 9 rfl
        refine r_iload_n (pc' := 42) hx (hd 25) rfl 2 rfl rfl ?_
        refine r_iconst (pc' := 43) (v := 1) hx (hd 26) (by decide) rfl ?_
        refine r_iadd (pc' := 44) hx (hd 27) rfl ?_
        refine r_gd (fun h11 => ?_)
        refine r_aald (pc' := 45) (k := ix (p1 + 1)) hx (hd 28) h10 rfl rfl rfl h11 rfl rfl ?_
        have h12 := hL.2 _ _ _ h10 3 1 4 8 0 rfl (ix (p1 + 1)) (inb_lt h11)
        refine r_astore (pc' := 47) (L' := [(4, .ref ((t + 1) + 1 + 4 * (ix (p1 + 1)))), (3, .ref ((t + 1) + 1 + 4 * (ix p1))), (0, .ref t), (1, .int p1), (2, .ref p2)]) hx (hd 29) (by decide) rfl rfl ?_
        refine r_aload_n (pc' := 48) hx (hd 30) rfl 1 rfl rfl ?_
        refine r_aload_n (pc' := 49) hx (hd 31) rfl 1 rfl rfl ?_
        refine r_get (pc' := 52) (v := .int (mI M ((t + 1) + 1 + 4 * (ix p1)) 10)) hx (hd 32) fl_1_26 h9 rfl (by decide) rfl ?_
        refine r_aload_n (pc' := 53) hx (hd 33) rfl 4 rfl rfl ?_
        refine r_callV (pc' := 56) (As := [.int (mI M ((t + 1) + 1 + 4 * (ix p1)) 10), .ref p2]) (rest := []) hx (hd 34) md_X8_playable mi_X8_playable ms_X8_playable ml_1_30 (cX8_playable (xl x) w hL ((t + 1) + 1 + 4 * (ix p1)) h9 (mI M ((t + 1) + 1 + 4 * (ix p1)) 10) p2 hp2 M) h9 rfl (by decide) ⟨by omega, by omega⟩ rfl rfl (Nat.le_of_ble_eq_true rfl) (fun r13 => .long r13 :: []) (fun _ => M) (fun _ => ⟨rfl, rfl⟩) rfl (fun r13 _ => ?_)
        refine r_lstore (pc' := 58) (L' := [(5, .long r13), (4, .ref ((t + 1) + 1 + 4 * (ix (p1 + 1)))), (3, .ref ((t + 1) + 1 + 4 * (ix p1))), (0, .ref t), (1, .int p1), (2, .ref p2)]) hx (hd 35) (by decide) rfl rfl ?_
        refine r_ldc (pc' := 60) hx (hd 36) kc_1_34 rfl ?_
        refine r_istore (pc' := 62) (L' := [(7, .int (-1000000)), (5, .long r13), (4, .ref ((t + 1) + 1 + 4 * (ix (p1 + 1)))), (3, .ref ((t + 1) + 1 + 4 * (ix p1))), (0, .ref t), (1, .int p1), (2, .ref p2)]) hx (hd 37) (by decide) rfl rfl ?_
        refine r_iconst (pc' := 63) (v := 0) hx (hd 38) (by decide) rfl ?_
        refine r_istore (pc' := 65) (L' := [(8, .int 0), (7, .int (-1000000)), (5, .long r13), (4, .ref ((t + 1) + 1 + 4 * (ix (p1 + 1)))), (3, .ref ((t + 1) + 1 + 4 * (ix p1))), (0, .ref t), (1, .int p1), (2, .ref p2)]) hx (hd 39) (by decide) rfl rfl ?_
        refine r_sub [5, 6, 7, 4, 3, 2, 1, 0] rfl ?_
        refine r_wl4 (fun v14 v15 v16 M17 => [(0, .ref t), (1, .int p1), (2, .ref p2), (3, .ref ((t + 1) + 1 + 4 * (ix p1))), (4, .ref ((t + 1) + 1 + 4 * (ix (p1 + 1)))), (5, .long v14), (7, .int v15), (8, .int v16)]) (fun v14 v15 v16 M17 => []) (fun v14 v15 v16 M17 => M17) (fun v14 v15 v16 M17 rec18 ih19 => ?_) fuel r13 (-1000000) 0 M
        refine r_iload (pc' := 67) hx (hd 40) 7 rfl rfl ?_
        refine r_bipush (pc' := 69) (v := 6) hx (hd 41) (by decide) rfl ?_
        refine r_jn0 173 ([(7, .int v15)]) ([]) (M17) (?_) (fun j20 hj21 => ?_)
        · skip
          refine r_iload (pc' := 175) hx (hd 95) 0 rfl rfl ?_
          exact r_iret hx (hd 96) rfl rfl hz
        refine r_icmp_ge (tgt := 173) (pc' := 72) hx (hd 42) (by decide) (fun _ => ?_) rfl (fun _ => ?_)
        · skip
          refine r_sub [6] rfl ?_
          exact hj21
        · skip
          refine r_lload (pc' := 74) hx (hd 43) 5 rfl rfl ?_
          refine r_lconst (pc' := 75) (v := 0) hx (hd 44) (by decide) rfl ?_
          refine r_lcmp_eq (tgt := 173) (pc' := 79) hx (hd 45) (hd 46) (by decide) (fun _ => ?_) rfl (fun _ => ?_)
          · skip
            refine r_sub [6] rfl ?_
            exact hj21
          · skip
            refine r_lload (pc' := 81) hx (hd 47) 5 rfl rfl ?_
            refine r_callSN (pc' := 84) (As := [.long v14]) (rest := []) hx (hd 48) md_X11_lowest mst_X11_lowest ml_1_35 (cX11_lowest (xl x) w hL v14 M17) ⟨by omega, by omega⟩ rfl rfl (Nat.le_of_ble_eq_true rfl) (fun r22 => .int r22 :: []) (fun _ => M17) (fun _ => ⟨rfl, rfl⟩) rfl (fun r22 _ => ?_)
            refine r_istore (pc' := 86) (L' := [(9, .int r22), (0, .ref t), (1, .int p1), (2, .ref p2), (3, .ref ((t + 1) + 1 + 4 * (ix p1))), (4, .ref ((t + 1) + 1 + 4 * (ix (p1 + 1)))), (5, .long v14), (7, .int v15), (8, .int v16)]) hx (hd 49) (by decide) rfl rfl ?_
            refine r_lload (pc' := 88) hx (hd 50) 6 rfl rfl ?_
            refine r_lload (pc' := 90) hx (hd 51) 6 rfl rfl ?_
            refine r_lconst (pc' := 91) (v := 1) hx (hd 52) (by decide) rfl ?_
            refine r_lsub (pc' := 92) hx (hd 53) rfl ?_
            refine r_land (pc' := 93) hx (hd 54) rfl ?_
            refine r_nmJ (fun v23 => ?_)
            refine r_lstore (pc' := 95) (L' := [(5, .long v23), (9, .int r22), (0, .ref t), (1, .int p1), (2, .ref p2), (3, .ref ((t + 1) + 1 + 4 * (ix p1))), (4, .ref ((t + 1) + 1 + 4 * (ix (p1 + 1)))), (7, .int v15), (8, .int v16)]) hx (hd 55) (by decide) rfl rfl ?_
            refine r_aload (pc' := 97) hx (hd 56) 6 rfl rfl ?_
            refine r_aload_n (pc' := 98) hx (hd 57) rfl 5 rfl rfl ?_
            refine r_callVU (pc' := 101) (As := [.ref ((t + 1) + 1 + 4 * (ix p1))]) (rest := []) hx (hd 58) md_X8_copyFrom mi_X8_copyFrom ms_X8_copyFrom ml_1_18 (cX8_copyFrom (xl x) w hL ((t + 1) + 1 + 4 * (ix (p1 + 1))) h12 ((t + 1) + 1 + 4 * (ix p1)) h9 M17) h12 rfl (by decide) ⟨by omega, by omega⟩ rfl rfl (Nat.le_of_ble_eq_true rfl) rfl (fun M24 => ?_)
            refine r_aload (pc' := 103) hx (hd 59) 6 rfl rfl ?_
            refine r_iload (pc' := 105) hx (hd 60) 1 rfl rfl ?_
            refine r_aload_n (pc' := 106) hx (hd 61) rfl 4 rfl rfl ?_
            refine r_callVI (pc' := 109) (As := [.int r22, .ref p2]) (rest := []) hx (hd 62) md_X8_putDown mi_X8_putDown ms_X8_putDown ml_1_39 (cX8_putDown (xl x) w hL ((t + 1) + 1 + 4 * (ix (p1 + 1))) h12 r22 p2 hp2 M24) h12 rfl (by decide) ⟨by omega, by omega⟩ rfl rfl (Nat.le_of_ble_eq_true rfl) (fun r26 => .int r26 :: []) (fun _ => rfl) rfl (fun r26 M25 => ?_)
            refine r_istore (pc' := 111) (L' := [(10, .int r26), (5, .long v23), (9, .int r22), (0, .ref t), (1, .int p1), (2, .ref p2), (3, .ref ((t + 1) + 1 + 4 * (ix p1))), (4, .ref ((t + 1) + 1 + 4 * (ix (p1 + 1)))), (7, .int v15), (8, .int v16)]) hx (hd 63) (by decide) rfl rfl ?_
            refine r_aload_n (pc' := 112) hx (hd 64) rfl 3 rfl rfl ?_
            refine r_iload_n (pc' := 113) hx (hd 65) rfl 4 rfl rfl ?_
            refine r_iconst (pc' := 114) (v := 1) hx (hd 66) (by decide) rfl ?_
            refine r_iadd (pc' := 115) hx (hd 67) rfl ?_
            refine r_aload_n (pc' := 116) hx (hd 68) rfl 5 rfl rfl ?_
            refine r_callVI (pc' := 119) (As := [.int (p1 + 1), .ref p2]) (rest := []) hx (hd 69) md_X1_best mi_X1_best ms_X1_best ml_1_22 (hB t ht (p1 + 1) p2 hp2 M25) ht rfl (by decide) ⟨by omega, by omega⟩ rfl rfl (Nat.le_of_ble_eq_true rfl) (fun r28 => .int r28 :: []) (fun _ => rfl) rfl (fun r28 M27 => ?_)
            refine r_istore (pc' := 121) (L' := [(11, .int r28), (10, .int r26), (5, .long v23), (9, .int r22), (0, .ref t), (1, .int p1), (2, .ref p2), (3, .ref ((t + 1) + 1 + 4 * (ix p1))), (4, .ref ((t + 1) + 1 + 4 * (ix (p1 + 1)))), (7, .int v15), (8, .int v16)]) hx (hd 70) (by decide) rfl rfl ?_
            refine r_iload (pc' := 123) hx (hd 71) 1 rfl rfl ?_
            refine r_aload (pc' := 125) hx (hd 72) 8 rfl rfl ?_
            refine r_get (pc' := 128) (v := .int (mI M27 ((t + 1) + 1 + 4 * (ix (p1 + 1))) 10)) hx (hd 73) fl_1_26 h12 rfl (by decide) rfl ?_
            refine r_aload_n (pc' := 129) hx (hd 74) rfl 7 rfl rfl ?_
            refine r_get (pc' := 132) (v := .int (mI M27 ((t + 1) + 1 + 4 * (ix p1)) 10)) hx (hd 75) fl_1_26 h9 rfl (by decide) rfl ?_
            refine r_jn1 143 (fun v29 => [(0, .ref t), (1, .int p1), (2, .ref p2), (3, .ref ((t + 1) + 1 + 4 * (ix p1))), (4, .ref ((t + 1) + 1 + 4 * (ix (p1 + 1)))), (5, .long v23), (7, .int v15), (8, .int v16), (9, .int r22)]) (fun v29 => [.int v29, .int r26]) (fun v29 => M27) (fun v29 => ?_) (fun j30 hj31 => ?_)
            · skip
              refine r_iadd (pc' := 144) hx (hd 81) rfl ?_
              refine r_nmI (fun v32 => ?_)
              refine r_istore (pc' := 146) (L' := [(12, .int v32), (0, .ref t), (1, .int p1), (2, .ref p2), (3, .ref ((t + 1) + 1 + 4 * (ix p1))), (4, .ref ((t + 1) + 1 + 4 * (ix (p1 + 1)))), (5, .long v23), (7, .int v15), (8, .int v16), (9, .int r22)]) hx (hd 82) (by decide) rfl rfl ?_
              refine r_iload (pc' := 148) hx (hd 83) 0 rfl rfl ?_
              refine r_iload (pc' := 150) hx (hd 84) 7 rfl rfl ?_
              refine r_jn2 167 (fun v33 M34 => [(0, .ref t), (1, .int p1), (2, .ref p2), (3, .ref ((t + 1) + 1 + 4 * (ix p1))), (4, .ref ((t + 1) + 1 + 4 * (ix (p1 + 1)))), (5, .long v23), (7, .int v33), (8, .int v16)]) (fun v33 M34 => []) (fun v33 M34 => M34) (fun v33 M34 => ?_) (fun j35 hj36 => ?_)
              · skip
                refine r_iinc (pc' := 170) (v := 1) hx (hd 93) 7 rfl (by decide) (by decide) (fun v37 => [(8, .int v37), (0, .ref t), (1, .int p1), (2, .ref p2), (3, .ref ((t + 1) + 1 + 4 * (ix p1))), (4, .ref ((t + 1) + 1 + 4 * (ix (p1 + 1)))), (5, .long v23), (7, .int v33)]) (fun _ => rfl) rfl (fun v37 => ?_)
                refine r_goto (tgt := 65) hx (hd 94) (by decide) ?_
                refine r_sub [1, 2, 3, 4, 5, 6, 7, 0] rfl ?_
                exact ih19 v23 v33 v37 M34
              refine r_icmp_le (tgt := 167) (pc' := 153) hx (hd 85) (by decide) (fun _ => ?_) rfl (fun _ => ?_)
              · skip
                refine r_sub [1, 2, 3, 4, 5, 6, 7, 8] rfl ?_
                exact hj36 v15 M27
              · skip
                refine r_iload (pc' := 155) hx (hd 86) 0 rfl rfl ?_
                refine r_istore (pc' := 157) (L' := [(7, .int v32), (12, .int v32), (0, .ref t), (1, .int p1), (2, .ref p2), (3, .ref ((t + 1) + 1 + 4 * (ix p1))), (4, .ref ((t + 1) + 1 + 4 * (ix (p1 + 1)))), (5, .long v23), (8, .int v16), (9, .int r22)]) hx (hd 87) (by decide) rfl rfl ?_
                refine r_iload_n (pc' := 158) hx (hd 88) rfl 3 rfl rfl ?_
                refine r_if_ne (tgt := 167) (pc' := 161) hx (hd 89) (by decide) (fun _ => ?_) rfl (fun _ => ?_)
                · skip
                  refine r_sub [2, 3, 4, 5, 6, 7, 0, 8] rfl ?_
                  exact hj36 v32 M27
                · skip
                  refine r_aload_n (pc' := 162) hx (hd 90) rfl 2 rfl rfl ?_
                  refine r_iload (pc' := 164) hx (hd 91) 9 rfl rfl ?_
                  refine r_putI (pc' := 167) hx (hd 92) fp_1_42 ht rfl (by decide) rfl (fun M38 => ?_)
                  refine r_sub [2, 3, 4, 5, 6, 7, 0, 8] rfl ?_
                  exact hj36 v32 M38
            refine r_icmp_ne (tgt := 140) (pc' := 135) hx (hd 76) (by decide) (fun _ => ?_) rfl (fun _ => ?_)
            · skip
              refine r_iload (pc' := 142) hx (hd 79) 0 rfl rfl ?_
              refine r_ineg (pc' := 143) hx (hd 80) rfl ?_
              refine r_sub [4, 5, 6, 7, 8, 2, 9, 10, 3] rfl ?_
              exact hj31 (-r28)
            · skip
              refine r_iload (pc' := 137) hx (hd 77) 0 rfl rfl ?_
              refine r_goto (tgt := 143) hx (hd 78) (by decide) ?_
              refine r_sub [4, 5, 6, 7, 8, 2, 9, 10, 3] rfl ?_
              exact hj31 r28
      · skip
        refine r_sub [] rfl ?_
        exact hj2
theorem gX1_best (l : Launch) (w : WX) (hL : Lay w) : ∀ (n : Nat) (t : Nat) (ht : Wat w t 1 0) (p1 : Int32) (p2 : Nat) (hp2 : Wat w p2 10 0) (M : Mem), Ct l w yX1_best prog_3_method_3_code 13 (Option.some FieldType.int) (5 * n) (116 * n) evIM emM [.ref t, .int p1, .ref p2] M (GX1_best n t p1 p2 M)
  | 0, _, _, _, _, _, _ => fun _ h => by cases h
  | n + 1, t, ht, p1, p2, hp2, M => cX1_best l w hL t ht p1 p2 hp2 (GX1_best n) (5 * n) (116 * n) (gX1_best l w hL n) M
theorem cX1_bestR (l : Launch) (w : WX) (hL : Lay w) (t : Nat) (ht : Wat w t 1 0) (p1 : Int32) (p2 : Nat) (hp2 : Wat w p2 10 0) (M : Mem) : Ct l w yX1_best prog_3_method_3_code 13 (Option.some FieldType.int) 50 1160 evIM emM [.ref t, .int p1, .ref p2] M (FX1_bestR t p1 p2 M) := gX1_best l w hL 10 t ht p1 p2 hp2 M
abbrev yX1_most : MethodName := ({ cls := "CribbageRoom$Ending", name := "most", desc := "(LCribbageRoom$Table;LCribbageRoom$Worth;)I" } : Jvm.MethodName)
def tbX1_most : List (Nat × Instr × Nat) := [(0, .aload_n 0, 1), (1, .getfield 11, 3), (4, .iconst 0, 1), (5, .aaload, 1), (6, .aload_n 1, 1), (7, .invokevirtual 18, 3), (10, .aload_n 0, 1), (11, .iconst 0, 1), (12, .aload_n 2, 1), (13, .invokevirtual 22, 3), (16, .ireturn, 1)]
theorem dX1_most : ∀ q ∈ tbX1_most, decode prog_3_method_2_code q.1 = .ok q.2 := by decide +kernel
set_option maxRecDepth 20000 in
theorem cX1_most (l : Launch) (w : WX) (hL : Lay w) (t : Nat) (ht : Wat w t 1 0) (p1 : Nat) (hp1 : Wat w p1 8 0) (p2 : Nat) (hp2 : Wat w p2 10 0) (M : Mem) : Ct l w yX1_most prog_3_method_2_code 3 (Option.some FieldType.int) 51 1192 evIM emM [.ref t, .ref p1, .ref p2] M (FX1_most t p1 p2 M) := by
  refine ct_of (by decide) (Nat.le_of_ble_eq_true rfl) (fun x hl hx hb hz => ?_)
  subst hl
  have hd : ∀ i, DAt (xc x).code (tbX1_most[i]?) := fun i => by rw [hb]; exact dat_of dX1_most i
  show C x w (Qn x w evIM emM) 3 0 [(0, .ref t), (1, .ref p1), (2, .ref p2)] [] M (FX1_most t p1 p2 M)
  unfold FX1_most
  refine r_aload_n (pc' := 1) hx (hd 0) rfl 0 rfl rfl ?_
  refine r_get (pc' := 4) (v := .ref (t + 1)) hx (hd 1) fl_1_11 ht rfl (by decide) rfl ?_
  have h1 := hL.1 _ _ _ ht 0 1 31 9 rfl
  refine r_iconst (pc' := 5) (v := 0) hx (hd 2) (by decide) rfl ?_
  refine r_aald (pc' := 6) (k := 0) hx (hd 3) h1 rfl rfl rfl (by decide) (by decide) rfl ?_
  have h2 := hL.2 _ _ _ h1 3 1 4 8 0 rfl (0) (by decide)
  refine r_aload_n (pc' := 7) hx (hd 4) rfl 1 rfl rfl ?_
  refine r_callVU (pc' := 10) (As := [.ref p1]) (rest := []) hx (hd 5) md_X8_copyFrom mi_X8_copyFrom ms_X8_copyFrom ml_1_18 (cX8_copyFrom (xl x) w hL ((t + 1) + 1 + 4 * 0) h2 p1 hp1 M) h2 rfl (by decide) ⟨Nat.le_of_ble_eq_true rfl, Nat.le_of_ble_eq_true rfl⟩ rfl rfl (Nat.le_of_ble_eq_true rfl) rfl (fun M3 => ?_)
  refine r_aload_n (pc' := 11) hx (hd 6) rfl 0 rfl rfl ?_
  refine r_iconst (pc' := 12) (v := 0) hx (hd 7) (by decide) rfl ?_
  refine r_aload_n (pc' := 13) hx (hd 8) rfl 2 rfl rfl ?_
  refine r_callVI (pc' := 16) (As := [.int 0, .ref p2]) (rest := []) hx (hd 9) md_X1_best mi_X1_best ms_X1_best ml_1_22 (cX1_bestR (xl x) w hL t ht 0 p2 hp2 M3) ht rfl (by decide) ⟨Nat.le_of_ble_eq_true rfl, Nat.le_of_ble_eq_true rfl⟩ rfl rfl (Nat.le_of_ble_eq_true rfl) (fun r5 => .int r5 :: []) (fun _ => rfl) rfl (fun r5 M4 => ?_)
  exact r_iret hx (hd 10) rfl rfl hz
abbrev yX11_toEnd : MethodName := ({ cls := "CribbageRoom", name := "toEnd", desc := "(I)I" } : Jvm.MethodName)
def tbX11_toEnd : List (Nat × Instr × Nat) := [(0, .iload_n 1, 1), (1, .ifCond .lt 22, 3), (4, .iload_n 1, 1), (5, .iconst 1, 1), (6, .if_icmp .gt 17, 3), (9, .aload_n 0, 1), (10, .getfield 12, 3), (13, .getfield 113, 3), (16, .getfield 181, 3), (19, .iconst (-1), 1), (20, .if_icmp .ne 7, 3), (23, .sipush (-1000), 3), (26, .ireturn, 1), (27, .aload_n 0, 1), (28, .getfield 57, 3), (31, .aload_n 0, 1), (32, .getfield 12, 3), (35, .aload_n 0, 1), (36, .getfield 12, 3), (39, .getfield 110, 3), (42, .aload_n 0, 1), (43, .getfield 12, 3), (46, .getfield 113, 3), (49, .invokevirtual 116, 3), (52, .aload_n 0, 1), (53, .getfield 12, 3), (56, .getfield 113, 3), (59, .aload_n 0, 1), (60, .getfield 12, 3), (63, .getfield 113, 3), (66, .getfield 181, 3), (69, .aload_n 0, 1), (70, .getfield 57, 3), (73, .invokevirtual 335, 3), (76, .lconst 0, 1), (77, .lcmp, 1), (78, .ifCond .ne 7, 3), (81, .sipush (-1000), 3), (84, .ireturn, 1), (85, .aload_n 0, 1), (86, .getfield 88, 3), (89, .aload_n 0, 1), (90, .getfield 12, 3), (93, .getfield 113, 3), (96, .aload_n 0, 1), (97, .getfield 57, 3), (100, .invokevirtual 339, 3), (103, .istore_n 2, 1), (104, .iload_n 1, 1), (105, .ifCond .ne 7, 3), (108, .iload_n 2, 1), (109, .goto 10, 3), (112, .aload_n 0, 1), (113, .getfield 88, 3), (116, .getfield 343, 3), (119, .ireturn, 1)]
theorem dX11_toEnd : ∀ q ∈ tbX11_toEnd, decode prog_1_method_28_code q.1 = .ok q.2 := by decide +kernel
set_option maxRecDepth 20000 in
theorem cX11_toEnd (l : Launch) (w : WX) (hL : Lay w) (t : Nat) (ht : Wat w t 11 0) (p1 : Int32) (M : Mem) : Ct l w yX11_toEnd prog_1_method_28_code 3 (Option.some FieldType.int) 52 1214 evIM emM [.ref t, .int p1] M (FX11_toEnd t p1 M) := by
  refine ct_of (by decide) (Nat.le_of_ble_eq_true rfl) (fun x hl hx hb hz => ?_)
  subst hl
  have hd : ∀ i, DAt (xc x).code (tbX11_toEnd[i]?) := fun i => by rw [hb]; exact dat_of dX11_toEnd i
  show C x w (Qn x w evIM emM) 3 0 [(0, .ref t), (1, .int p1)] [] M (FX11_toEnd t p1 M)
  unfold FX11_toEnd
  refine r_iload_n (pc' := 1) hx (hd 0) rfl 1 rfl rfl ?_
  refine r_jn0 23 ([]) ([]) (M) (?_) (fun j1 hj2 => ?_)
  · skip
    refine r_sipush (pc' := 26) (v := (-1000)) hx (hd 11) (by decide) rfl ?_
    exact r_iret hx (hd 12) rfl rfl hz
  refine r_if_lt (tgt := 23) (pc' := 4) hx (hd 1) (by decide) (fun _ => ?_) rfl (fun _ => ?_)
  · skip
    refine r_sub [] rfl ?_
    exact hj2
  · skip
    refine r_iload_n (pc' := 5) hx (hd 2) rfl 1 rfl rfl ?_
    refine r_iconst (pc' := 6) (v := 1) hx (hd 3) (by decide) rfl ?_
    refine r_icmp_gt (tgt := 23) (pc' := 9) hx (hd 4) (by decide) (fun _ => ?_) rfl (fun _ => ?_)
    · skip
      refine r_sub [] rfl ?_
      exact hj2
    · skip
      refine r_aload_n (pc' := 10) hx (hd 5) rfl 0 rfl rfl ?_
      refine r_get (pc' := 13) (v := .ref (t + 1)) hx (hd 6) fl_11_12 ht rfl (by decide) rfl ?_
      have h3 := hL.1 _ _ _ ht 0 1 6 0 rfl
      refine r_get (pc' := 16) (v := .ref ((t + 1) + 1)) hx (hd 7) fl_11_113 h3 rfl (by decide) rfl ?_
      have h4 := hL.1 _ _ _ h3 0 1 8 0 rfl
      refine r_get (pc' := 19) (v := .int (mI M ((t + 1) + 1) 10)) hx (hd 8) fl_11_181 h4 rfl (by decide) rfl ?_
      refine r_iconst (pc' := 20) (v := (-1)) hx (hd 9) (by decide) rfl ?_
      refine r_icmp_ne (tgt := 27) (pc' := 23) hx (hd 10) (by decide) (fun _ => ?_) rfl (fun _ => ?_)
      · skip
        refine r_aload_n (pc' := 28) hx (hd 13) rfl 0 rfl rfl ?_
        refine r_get (pc' := 31) (v := .ref (t + 179)) hx (hd 14) fl_11_57 ht rfl (by decide) rfl ?_
        have h5 := hL.1 _ _ _ ht 8 179 10 0 rfl
        refine r_aload_n (pc' := 32) hx (hd 15) rfl 0 rfl rfl ?_
        refine r_get (pc' := 35) (v := .ref (t + 1)) hx (hd 16) fl_11_12 ht rfl (by decide) rfl ?_
        have h6 := hL.1 _ _ _ ht 0 1 6 0 rfl
        refine r_aload_n (pc' := 36) hx (hd 17) rfl 0 rfl rfl ?_
        refine r_get (pc' := 39) (v := .ref (t + 1)) hx (hd 18) fl_11_12 ht rfl (by decide) rfl ?_
        have h7 := hL.1 _ _ _ ht 0 1 6 0 rfl
        refine r_get (pc' := 42) (v := .int (mI M (t + 1) 8)) hx (hd 19) fl_11_110 h7 rfl (by decide) rfl ?_
        refine r_aload_n (pc' := 43) hx (hd 20) rfl 0 rfl rfl ?_
        refine r_get (pc' := 46) (v := .ref (t + 1)) hx (hd 21) fl_11_12 ht rfl (by decide) rfl ?_
        have h8 := hL.1 _ _ _ ht 0 1 6 0 rfl
        refine r_get (pc' := 49) (v := .ref ((t + 1) + 1)) hx (hd 22) fl_11_113 h8 rfl (by decide) rfl ?_
        have h9 := hL.1 _ _ _ h8 0 1 8 0 rfl
        refine r_callVU (pc' := 52) (As := [.ref (t + 1), .int (mI M (t + 1) 8), .ref ((t + 1) + 1)]) (rest := []) hx (hd 23) md_X10_fit mi_X10_fit ms_X10_fit ml_11_116 (cX10_fit (xl x) w hL (t + 179) h5 (t + 1) h6 (mI M (t + 1) 8) ((t + 1) + 1) h9 M) h5 rfl (by decide) ⟨Nat.le_of_ble_eq_true rfl, Nat.le_of_ble_eq_true rfl⟩ rfl rfl (Nat.le_of_ble_eq_true rfl) rfl (fun M10 => ?_)
        refine r_aload_n (pc' := 53) hx (hd 24) rfl 0 rfl rfl ?_
        refine r_get (pc' := 56) (v := .ref (t + 1)) hx (hd 25) fl_11_12 ht rfl (by decide) rfl ?_
        have h11 := hL.1 _ _ _ ht 0 1 6 0 rfl
        refine r_get (pc' := 59) (v := .ref ((t + 1) + 1)) hx (hd 26) fl_11_113 h11 rfl (by decide) rfl ?_
        have h12 := hL.1 _ _ _ h11 0 1 8 0 rfl
        refine r_aload_n (pc' := 60) hx (hd 27) rfl 0 rfl rfl ?_
        refine r_get (pc' := 63) (v := .ref (t + 1)) hx (hd 28) fl_11_12 ht rfl (by decide) rfl ?_
        have h13 := hL.1 _ _ _ ht 0 1 6 0 rfl
        refine r_get (pc' := 66) (v := .ref ((t + 1) + 1)) hx (hd 29) fl_11_113 h13 rfl (by decide) rfl ?_
        have h14 := hL.1 _ _ _ h13 0 1 8 0 rfl
        refine r_get (pc' := 69) (v := .int (mI M10 ((t + 1) + 1) 10)) hx (hd 30) fl_11_181 h14 rfl (by decide) rfl ?_
        refine r_aload_n (pc' := 70) hx (hd 31) rfl 0 rfl rfl ?_
        refine r_get (pc' := 73) (v := .ref (t + 179)) hx (hd 32) fl_11_57 ht rfl (by decide) rfl ?_
        have h15 := hL.1 _ _ _ ht 8 179 10 0 rfl
        refine r_callV (pc' := 76) (As := [.int (mI M10 ((t + 1) + 1) 10), .ref (t + 179)]) (rest := []) hx (hd 33) md_X8_playable mi_X8_playable ms_X8_playable ml_11_335 (cX8_playable (xl x) w hL ((t + 1) + 1) h12 (mI M10 ((t + 1) + 1) 10) (t + 179) h15 M10) h12 rfl (by decide) ⟨Nat.le_of_ble_eq_true rfl, Nat.le_of_ble_eq_true rfl⟩ rfl rfl (Nat.le_of_ble_eq_true rfl) (fun r16 => .long r16 :: []) (fun _ => M10) (fun _ => ⟨rfl, rfl⟩) rfl (fun r16 _ => ?_)
        refine r_lconst (pc' := 77) (v := 0) hx (hd 34) (by decide) rfl ?_
        refine r_lcmp_ne (tgt := 85) (pc' := 81) hx (hd 35) (hd 36) (by decide) (fun _ => ?_) rfl (fun _ => ?_)
        · skip
          refine r_aload_n (pc' := 86) hx (hd 39) rfl 0 rfl rfl ?_
          refine r_get (pc' := 89) (v := .ref (t + 237)) hx (hd 40) fl_11_88 ht rfl (by decide) rfl ?_
          have h17 := hL.1 _ _ _ ht 13 237 1 0 rfl
          refine r_aload_n (pc' := 90) hx (hd 41) rfl 0 rfl rfl ?_
          refine r_get (pc' := 93) (v := .ref (t + 1)) hx (hd 42) fl_11_12 ht rfl (by decide) rfl ?_
          have h18 := hL.1 _ _ _ ht 0 1 6 0 rfl
          refine r_get (pc' := 96) (v := .ref ((t + 1) + 1)) hx (hd 43) fl_11_113 h18 rfl (by decide) rfl ?_
          have h19 := hL.1 _ _ _ h18 0 1 8 0 rfl
          refine r_aload_n (pc' := 97) hx (hd 44) rfl 0 rfl rfl ?_
          refine r_get (pc' := 100) (v := .ref (t + 179)) hx (hd 45) fl_11_57 ht rfl (by decide) rfl ?_
          have h20 := hL.1 _ _ _ ht 8 179 10 0 rfl
          refine r_callVI (pc' := 103) (As := [.ref ((t + 1) + 1), .ref (t + 179)]) (rest := []) hx (hd 46) md_X1_most mi_X1_most ms_X1_most ml_11_339 (cX1_most (xl x) w hL (t + 237) h17 ((t + 1) + 1) h19 (t + 179) h20 M10) h17 rfl (by decide) ⟨Nat.le_of_ble_eq_true rfl, Nat.le_of_ble_eq_true rfl⟩ rfl rfl (Nat.le_of_ble_eq_true rfl) (fun r22 => .int r22 :: []) (fun _ => rfl) rfl (fun r22 M21 => ?_)
          refine r_istore_n (pc' := 104) (L' := [(2, .int r22), (0, .ref t), (1, .int p1)]) hx (hd 47) rfl (by decide) rfl rfl ?_
          refine r_iload_n (pc' := 105) hx (hd 48) rfl 2 rfl rfl ?_
          refine r_jn1 119 (fun v23 => []) (fun v23 => [.int v23]) (fun v23 => M21) (fun v23 => ?_) (fun j24 hj25 => ?_)
          · skip
            exact r_iret hx (hd 55) rfl rfl hz
          refine r_if_ne (tgt := 112) (pc' := 108) hx (hd 49) (by decide) (fun _ => ?_) rfl (fun _ => ?_)
          · skip
            refine r_aload_n (pc' := 113) hx (hd 52) rfl 1 rfl rfl ?_
            refine r_get (pc' := 116) (v := .ref (t + 237)) hx (hd 53) fl_11_88 ht rfl (by decide) rfl ?_
            have h26 := hL.1 _ _ _ ht 13 237 1 0 rfl
            refine r_get (pc' := 119) (v := .int (mI M21 (t + 237) 1)) hx (hd 54) fl_11_343 h26 rfl (by decide) rfl ?_
            refine r_sub [] rfl ?_
            exact hj25 (mI M21 (t + 237) 1)
          · skip
            refine r_iload_n (pc' := 109) hx (hd 50) rfl 0 rfl rfl ?_
            refine r_goto (tgt := 119) hx (hd 51) (by decide) ?_
            refine r_sub [] rfl ?_
            exact hj25 r22
        · skip
          refine r_sipush (pc' := 84) (v := (-1000)) hx (hd 37) (by decide) rfl ?_
          exact r_iret hx (hd 38) rfl rfl hz
      · skip
        refine r_sub [] rfl ?_
        exact hj2
abbrev yX11_seen : MethodName := ({ cls := "CribbageRoom", name := "seen", desc := "(II)I" } : Jvm.MethodName)
def tbX11_seen : List (Nat × Instr × Nat) := [(0, .iload_n 1, 1), (1, .invokestatic 106, 3), (4, .ifCond .eq 14, 3), (7, .iload_n 2, 1), (8, .ifCond .lt 10, 3), (11, .iload_n 2, 1), (12, .sipush 999, 3), (15, .if_icmp .le 9, 3), (18, .aload_n 0, 1), (19, .iconst (-1), 1), (20, .invokevirtual 211, 3), (23, .ireturn, 1), (24, .aload_n 0, 1), (25, .getfield 12, 3), (28, .getfield 187, 3), (31, .bipush 6, 2), (33, .if_icmp .lt 10, 3), (36, .aload_n 0, 1), (37, .bipush (-5), 2), (39, .invokevirtual 211, 3), (42, .ireturn, 1), (43, .aload_n 0, 1), (44, .getfield 12, 3), (47, .getfield 346, 3), (50, .aload_n 0, 1), (51, .getfield 12, 3), (54, .getfield 187, 3), (57, .iload_n 1, 1), (58, .iastore, 1), (59, .aload_n 0, 1), (60, .getfield 12, 3), (63, .getfield 349, 3), (66, .aload_n 0, 1), (67, .getfield 12, 3), (70, .getfield 187, 3), (73, .iload_n 2, 1), (74, .iastore, 1), (75, .aload_n 0, 1), (76, .getfield 12, 3), (79, .dup, 1), (80, .getfield 187, 3), (83, .iconst 1, 1), (84, .iadd, 1), (85, .putfield 187, 3), (88, .aload_n 0, 1), (89, .aload_n 0, 1), (90, .getfield 12, 3), (93, .getfield 187, 3), (96, .invokevirtual 221, 3), (99, .ireturn, 1)]
theorem dX11_seen : ∀ q ∈ tbX11_seen, decode prog_1_method_29_code q.1 = .ok q.2 := by decide +kernel
set_option maxRecDepth 20000 in
theorem cX11_seen (l : Launch) (w : WX) (hL : Lay w) (t : Nat) (ht : Wat w t 11 0) (p1 : Int32) (p2 : Int32) (M : Mem) : Ct l w yX11_seen prog_1_method_29_code 3 (Option.some FieldType.int) 1 22 evIM emM [.ref t, .int p1, .int p2] M (FX11_seen t p1 p2 M) := by
  refine ct_of (by decide) (Nat.le_of_ble_eq_true rfl) (fun x hl hx hb hz => ?_)
  subst hl
  have hd : ∀ i, DAt (xc x).code (tbX11_seen[i]?) := fun i => by rw [hb]; exact dat_of dX11_seen i
  show C x w (Qn x w evIM emM) 3 0 [(0, .ref t), (1, .int p1), (2, .int p2)] [] M (FX11_seen t p1 p2 M)
  unfold FX11_seen
  refine r_iload_n (pc' := 1) hx (hd 0) rfl 1 rfl rfl ?_
  refine r_callS (pc' := 4) (As := [.int p1]) (rest := []) hx (hd 1) md_X11_isCard mst_X11_isCard ml_11_106 (cX11_isCard (xl x) w hL p1 M) ⟨Nat.le_of_ble_eq_true rfl, Nat.le_of_ble_eq_true rfl⟩ rfl rfl (Nat.le_of_ble_eq_true rfl) (fun r1 => .int r1 :: []) (fun _ => M) (fun _ => ⟨rfl, rfl⟩) rfl (fun r1 _ => ?_)
  refine r_jn0 18 ([(0, .ref t)]) ([]) (M) (?_) (fun j2 hj3 => ?_)
  · skip
    refine r_aload_n (pc' := 19) hx (hd 8) rfl 0 rfl rfl ?_
    refine r_iconst (pc' := 20) (v := (-1)) hx (hd 9) (by decide) rfl ?_
    refine r_callVI (pc' := 23) (As := [.int (-1)]) (rest := []) hx (hd 10) md_X11_refuse mi_X11_refuse ms_X11_refuse ml_11_211 (cX11_refuse (xl x) w hL t ht (-1) M) ht rfl (by decide) ⟨Nat.le_of_ble_eq_true rfl, Nat.le_of_ble_eq_true rfl⟩ rfl rfl (Nat.le_of_ble_eq_true rfl) (fun r5 => .int r5 :: []) (fun _ => rfl) rfl (fun r5 M4 => ?_)
    exact r_iret hx (hd 11) rfl rfl hz
  refine r_if_eq (tgt := 18) (pc' := 7) hx (hd 2) (by decide) (fun _ => ?_) rfl (fun _ => ?_)
  · skip
    refine r_sub [0] rfl ?_
    exact hj3
  · skip
    refine r_iload_n (pc' := 8) hx (hd 3) rfl 2 rfl rfl ?_
    refine r_if_lt (tgt := 18) (pc' := 11) hx (hd 4) (by decide) (fun _ => ?_) rfl (fun _ => ?_)
    · skip
      refine r_sub [0] rfl ?_
      exact hj3
    · skip
      refine r_iload_n (pc' := 12) hx (hd 5) rfl 2 rfl rfl ?_
      refine r_sipush (pc' := 15) (v := 999) hx (hd 6) (by decide) rfl ?_
      refine r_icmp_le (tgt := 24) (pc' := 18) hx (hd 7) (by decide) (fun _ => ?_) rfl (fun _ => ?_)
      · skip
        refine r_aload_n (pc' := 25) hx (hd 12) rfl 0 rfl rfl ?_
        refine r_get (pc' := 28) (v := .ref (t + 1)) hx (hd 13) fl_11_12 ht rfl (by decide) rfl ?_
        have h6 := hL.1 _ _ _ ht 0 1 6 0 rfl
        refine r_get (pc' := 31) (v := .int (mI M (t + 1) 6)) hx (hd 14) fl_11_187 h6 rfl (by decide) rfl ?_
        refine r_bipush (pc' := 33) (v := 6) hx (hd 15) (by decide) rfl ?_
        refine r_icmp_lt (tgt := 43) (pc' := 36) hx (hd 16) (by decide) (fun _ => ?_) rfl (fun _ => ?_)
        · skip
          refine r_aload_n (pc' := 44) hx (hd 21) rfl 0 rfl rfl ?_
          refine r_get (pc' := 47) (v := .ref (t + 1)) hx (hd 22) fl_11_12 ht rfl (by decide) rfl ?_
          have h7 := hL.1 _ _ _ ht 0 1 6 0 rfl
          refine r_get (pc' := 50) (v := .ref ((t + 1) + 5)) hx (hd 23) fl_11_346 h7 rfl (by decide) rfl ?_
          have h8 := hL.1 _ _ _ h7 1 5 20 6 rfl
          refine r_aload_n (pc' := 51) hx (hd 24) rfl 0 rfl rfl ?_
          refine r_get (pc' := 54) (v := .ref (t + 1)) hx (hd 25) fl_11_12 ht rfl (by decide) rfl ?_
          have h9 := hL.1 _ _ _ ht 0 1 6 0 rfl
          refine r_get (pc' := 57) (v := .int (mI M (t + 1) 6)) hx (hd 26) fl_11_187 h9 rfl (by decide) rfl ?_
          refine r_iload_n (pc' := 58) hx (hd 27) rfl 1 rfl rfl ?_
          refine r_gd (fun h11 => ?_)
          refine r_iast (pc' := 59) (k := ix (mI M (t + 1) 6)) hx (hd 28) h8 h11 rfl rfl (fun M10 => ?_)
          refine r_aload_n (pc' := 60) hx (hd 29) rfl 0 rfl rfl ?_
          refine r_get (pc' := 63) (v := .ref (t + 1)) hx (hd 30) fl_11_12 ht rfl (by decide) rfl ?_
          have h12 := hL.1 _ _ _ ht 0 1 6 0 rfl
          refine r_get (pc' := 66) (v := .ref ((t + 1) + 6)) hx (hd 31) fl_11_349 h12 rfl (by decide) rfl ?_
          have h13 := hL.1 _ _ _ h12 2 6 20 6 rfl
          refine r_aload_n (pc' := 67) hx (hd 32) rfl 0 rfl rfl ?_
          refine r_get (pc' := 70) (v := .ref (t + 1)) hx (hd 33) fl_11_12 ht rfl (by decide) rfl ?_
          have h14 := hL.1 _ _ _ ht 0 1 6 0 rfl
          refine r_get (pc' := 73) (v := .int (mI M10 (t + 1) 6)) hx (hd 34) fl_11_187 h14 rfl (by decide) rfl ?_
          refine r_iload_n (pc' := 74) hx (hd 35) rfl 2 rfl rfl ?_
          refine r_gd (fun h16 => ?_)
          refine r_iast (pc' := 75) (k := ix (mI M10 (t + 1) 6)) hx (hd 36) h13 h16 rfl rfl (fun M15 => ?_)
          refine r_aload_n (pc' := 76) hx (hd 37) rfl 0 rfl rfl ?_
          refine r_get (pc' := 79) (v := .ref (t + 1)) hx (hd 38) fl_11_12 ht rfl (by decide) rfl ?_
          have h17 := hL.1 _ _ _ ht 0 1 6 0 rfl
          refine r_dup (pc' := 80) hx (hd 39) rfl rfl ?_
          refine r_get (pc' := 83) (v := .int (mI M15 (t + 1) 6)) hx (hd 40) fl_11_187 h17 rfl (by decide) rfl ?_
          refine r_iconst (pc' := 84) (v := 1) hx (hd 41) (by decide) rfl ?_
          refine r_iadd (pc' := 85) hx (hd 42) rfl ?_
          refine r_putI (pc' := 88) hx (hd 43) fp_11_187 h17 rfl (by decide) rfl (fun M18 => ?_)
          refine r_aload_n (pc' := 89) hx (hd 44) rfl 0 rfl rfl ?_
          refine r_aload_n (pc' := 90) hx (hd 45) rfl 0 rfl rfl ?_
          refine r_get (pc' := 93) (v := .ref (t + 1)) hx (hd 46) fl_11_12 ht rfl (by decide) rfl ?_
          have h19 := hL.1 _ _ _ ht 0 1 6 0 rfl
          refine r_get (pc' := 96) (v := .int (mI M18 (t + 1) 6)) hx (hd 47) fl_11_187 h19 rfl (by decide) rfl ?_
          refine r_callVI (pc' := 99) (As := [.int (mI M18 (t + 1) 6)]) (rest := []) hx (hd 48) md_X11_grant mi_X11_grant ms_X11_grant ml_11_221 (cX11_grant (xl x) w hL t ht (mI M18 (t + 1) 6) M18) ht rfl (by decide) ⟨Nat.le_of_ble_eq_true rfl, Nat.le_of_ble_eq_true rfl⟩ rfl rfl (Nat.le_of_ble_eq_true rfl) (fun r21 => .int r21 :: []) (fun _ => rfl) rfl (fun r21 M20 => ?_)
          exact r_iret hx (hd 49) rfl rfl hz
        · skip
          refine r_aload_n (pc' := 37) hx (hd 17) rfl 0 rfl rfl ?_
          refine r_bipush (pc' := 39) (v := (-5)) hx (hd 18) (by decide) rfl ?_
          refine r_callVI (pc' := 42) (As := [.int (-5)]) (rest := []) hx (hd 19) md_X11_refuse mi_X11_refuse ms_X11_refuse ml_11_211 (cX11_refuse (xl x) w hL t ht (-5) M) ht rfl (by decide) ⟨Nat.le_of_ble_eq_true rfl, Nat.le_of_ble_eq_true rfl⟩ rfl rfl (Nat.le_of_ble_eq_true rfl) (fun r23 => .int r23 :: []) (fun _ => rfl) rfl (fun r23 M22 => ?_)
          exact r_iret hx (hd 20) rfl rfl hz
      · skip
        refine r_sub [0] rfl ?_
        exact hj3
abbrev yX11_forget : MethodName := ({ cls := "CribbageRoom", name := "forget", desc := "()I" } : Jvm.MethodName)
def tbX11_forget : List (Nat × Instr × Nat) := [(0, .aload_n 0, 1), (1, .getfield 12, 3), (4, .getfield 187, 3), (7, .istore_n 1, 1), (8, .aload_n 0, 1), (9, .getfield 12, 3), (12, .iconst 0, 1), (13, .putfield 187, 3), (16, .iload_n 1, 1), (17, .ireturn, 1)]
theorem dX11_forget : ∀ q ∈ tbX11_forget, decode prog_1_method_30_code q.1 = .ok q.2 := by decide +kernel
set_option maxRecDepth 20000 in
theorem cX11_forget (l : Launch) (w : WX) (hL : Lay w) (t : Nat) (ht : Wat w t 11 0) (M : Mem) : Ct l w yX11_forget prog_1_method_30_code 2 (Option.some FieldType.int) 0 0 evIM emM [.ref t] M (FX11_forget t M) := by
  refine ct_of (by decide) (Nat.le_of_ble_eq_true rfl) (fun x hl hx hb hz => ?_)
  subst hl
  have hd : ∀ i, DAt (xc x).code (tbX11_forget[i]?) := fun i => by rw [hb]; exact dat_of dX11_forget i
  show C x w (Qn x w evIM emM) 2 0 [(0, .ref t)] [] M (FX11_forget t M)
  unfold FX11_forget
  refine r_aload_n (pc' := 1) hx (hd 0) rfl 0 rfl rfl ?_
  refine r_get (pc' := 4) (v := .ref (t + 1)) hx (hd 1) fl_11_12 ht rfl (by decide) rfl ?_
  have h1 := hL.1 _ _ _ ht 0 1 6 0 rfl
  refine r_get (pc' := 7) (v := .int (mI M (t + 1) 6)) hx (hd 2) fl_11_187 h1 rfl (by decide) rfl ?_
  refine r_nmI (fun v2 => ?_)
  refine r_istore_n (pc' := 8) (L' := [(1, .int v2), (0, .ref t)]) hx (hd 3) rfl (by decide) rfl rfl ?_
  refine r_aload_n (pc' := 9) hx (hd 4) rfl 1 rfl rfl ?_
  refine r_get (pc' := 12) (v := .ref (t + 1)) hx (hd 5) fl_11_12 ht rfl (by decide) rfl ?_
  have h3 := hL.1 _ _ _ ht 0 1 6 0 rfl
  refine r_iconst (pc' := 13) (v := 0) hx (hd 6) (by decide) rfl ?_
  refine r_putI (pc' := 16) hx (hd 7) fp_11_187 h3 rfl (by decide) rfl (fun M4 => ?_)
  refine r_iload_n (pc' := 17) hx (hd 8) rfl 0 rfl rfl ?_
  exact r_iret hx (hd 9) rfl rfl hz
abbrev yX3_likely : MethodName := ({ cls := "CribbageRoom$Fours", name := "likely", desc := "(LCribbageRoom$State;)I" } : Jvm.MethodName)
def tbX3_likely : List (Nat × Instr × Nat) := [(0, .iconst 0, 1), (1, .istore_n 2, 1), (2, .iconst 0, 1), (3, .istore_n 3, 1), (4, .iload_n 3, 1), (5, .bipush 15, 2), (7, .if_icmp .ge 100, 3), (10, .iconst 1, 1), (11, .istore 4, 2), (13, .iconst 0, 1), (14, .istore 5, 2), (16, .iload 5, 2), (18, .aload_n 1, 1), (19, .getfield 60, 3), (22, .if_icmp .ge 64, 3), (25, .iload 5, 2), (27, .bipush 6, 2), (29, .if_icmp .ge 57, 3), (32, .aload_n 1, 1), (33, .getfield 66, 3), (36, .iload 5, 2), (38, .iaload, 1), (39, .istore 6, 2), (41, .iload 4, 2), (43, .ifCond .eq 34, 3), (46, .iload 6, 2), (48, .invokestatic 69, 3), (51, .ifCond .eq 26, 3), (54, .aload_n 0, 1), (55, .getfield 11, 3), (58, .iload_n 3, 1), (59, .aaload, 1), (60, .iload 6, 2), (62, .iaload, 1), (63, .aload_n 1, 1), (64, .getfield 73, 3), (67, .iload 5, 2), (69, .iaload, 1), (70, .if_icmp .ne 7, 3), (73, .iconst 1, 1), (74, .goto 4, 3), (77, .iconst 0, 1), (78, .istore 4, 2), (80, .iinc 5 1, 3), (83, .goto (-67), 3), (86, .iload_n 2, 1), (87, .iload 4, 2), (89, .ifCond .eq 9, 3), (92, .iconst 1, 1), (93, .iload_n 3, 1), (94, .ishl, 1), (95, .goto 4, 3), (98, .iconst 0, 1), (99, .ior, 1), (100, .istore_n 2, 1), (101, .iinc 3 1, 3), (104, .goto (-100), 3), (107, .iload_n 2, 1), (108, .ireturn, 1)]
theorem dX3_likely : ∀ q ∈ tbX3_likely, decode prog_5_method_7_code q.1 = .ok q.2 := by decide +kernel
set_option maxRecDepth 20000 in
theorem cX3_likely (l : Launch) (w : WX) (hL : Lay w) (t : Nat) (ht : Wat w t 3 0) (p1 : Nat) (hp1 : Wat w p1 6 0) (M : Mem) : Ct l w yX3_likely prog_5_method_7_code 7 (Option.some FieldType.int) 1 20 evI (emC M) [.ref t, .ref p1] M (FX3_likely t p1 M) := by
  refine ct_of (by decide) (Nat.le_of_ble_eq_true rfl) (fun x hl hx hb hz => ?_)
  subst hl
  have hd : ∀ i, DAt (xc x).code (tbX3_likely[i]?) := fun i => by rw [hb]; exact dat_of dX3_likely i
  show C x w (Qn x w evI (emC M)) 7 0 [(0, .ref t), (1, .ref p1)] [] M (FX3_likely t p1 M)
  unfold FX3_likely
  refine r_iconst (pc' := 1) (v := 0) hx (hd 0) (by decide) rfl ?_
  refine r_istore_n (pc' := 2) (L' := [(2, .int 0), (0, .ref t), (1, .ref p1)]) hx (hd 1) rfl (by decide) rfl rfl ?_
  refine r_iconst (pc' := 3) (v := 0) hx (hd 2) (by decide) rfl ?_
  refine r_istore_n (pc' := 4) (L' := [(3, .int 0), (2, .int 0), (0, .ref t), (1, .ref p1)]) hx (hd 3) rfl (by decide) rfl rfl ?_
  refine r_sub [2, 3, 1, 0] rfl ?_
  refine r_wl2 (fun v1 v2 => [(0, .ref t), (1, .ref p1), (2, .int v1), (3, .int v2)]) (fun v1 v2 => []) (fun v1 v2 => M) (fun v1 v2 rec3 ih4 => ?_) fuel 0 0
  refine r_iload_n (pc' := 5) hx (hd 4) rfl 3 rfl rfl ?_
  refine r_bipush (pc' := 7) (v := 15) hx (hd 5) (by decide) rfl ?_
  refine r_icmp_ge (tgt := 107) (pc' := 10) hx (hd 6) (by decide) (fun _ => ?_) rfl (fun _ => ?_)
  · skip
    refine r_iload_n (pc' := 108) hx (hd 57) rfl 2 rfl rfl ?_
    exact r_iret hx (hd 58) rfl rfl hz
  · skip
    refine r_iconst (pc' := 11) (v := 1) hx (hd 7) (by decide) rfl ?_
    refine r_istore (pc' := 13) (L' := [(4, .int 1), (0, .ref t), (1, .ref p1), (2, .int v1), (3, .int v2)]) hx (hd 8) (by decide) rfl rfl ?_
    refine r_iconst (pc' := 14) (v := 0) hx (hd 9) (by decide) rfl ?_
    refine r_istore (pc' := 16) (L' := [(5, .int 0), (4, .int 1), (0, .ref t), (1, .ref p1), (2, .int v1), (3, .int v2)]) hx (hd 10) (by decide) rfl rfl ?_
    refine r_sub [2, 3, 4, 5, 1, 0] rfl ?_
    refine r_wl2 (fun v5 v6 => [(0, .ref t), (1, .ref p1), (2, .int v1), (3, .int v2), (4, .int v5), (5, .int v6)]) (fun v5 v6 => []) (fun v5 v6 => M) (fun v5 v6 rec7 ih8 => ?_) fuel 1 0
    refine r_iload (pc' := 18) hx (hd 11) 5 rfl rfl ?_
    refine r_aload_n (pc' := 19) hx (hd 12) rfl 1 rfl rfl ?_
    refine r_get (pc' := 22) (v := .int (mI M p1 6)) hx (hd 13) fl_3_60 hp1 rfl (by decide) rfl ?_
    refine r_jn0 86 ([(0, .ref t), (1, .ref p1), (2, .int v1), (3, .int v2), (4, .int v5)]) ([]) (M) (?_) (fun j9 hj10 => ?_)
    · skip
      refine r_iload_n (pc' := 87) hx (hd 45) rfl 2 rfl rfl ?_
      refine r_iload (pc' := 89) hx (hd 46) 4 rfl rfl ?_
      refine r_jn1 99 (fun v11 => [(0, .ref t), (1, .ref p1), (3, .int v2)]) (fun v11 => [.int v11, .int v1]) (fun v11 => M) (fun v11 => ?_) (fun j12 hj13 => ?_)
      · skip
        refine r_ior (pc' := 100) hx (hd 53) rfl ?_
        refine r_nmI (fun v14 => ?_)
        refine r_istore_n (pc' := 101) (L' := [(2, .int v14), (0, .ref t), (1, .ref p1), (3, .int v2)]) hx (hd 54) rfl (by decide) rfl rfl ?_
        refine r_iinc (pc' := 104) (v := 1) hx (hd 55) 3 rfl (by decide) (by decide) (fun v15 => [(3, .int v15), (2, .int v14), (0, .ref t), (1, .ref p1)]) (fun _ => rfl) rfl (fun v15 => ?_)
        refine r_goto (tgt := 4) hx (hd 56) (by decide) ?_
        refine r_sub [2, 3, 1, 0] rfl ?_
        exact ih4 v14 v15
      refine r_if_eq (tgt := 98) (pc' := 92) hx (hd 47) (by decide) (fun _ => ?_) rfl (fun _ => ?_)
      · skip
        refine r_iconst (pc' := 99) (v := 0) hx (hd 52) (by decide) rfl ?_
        refine r_sub [0, 1, 3] rfl ?_
        exact hj13 0
      · skip
        refine r_iconst (pc' := 93) (v := 1) hx (hd 48) (by decide) rfl ?_
        refine r_iload_n (pc' := 94) hx (hd 49) rfl 3 rfl rfl ?_
        refine r_ishl (pc' := 95) hx (hd 50) rfl ?_
        refine r_goto (tgt := 99) hx (hd 51) (by decide) ?_
        refine r_sub [0, 1, 3] rfl ?_
        exact hj13 (1 <<< (v2 &&& 31))
    refine r_icmp_ge (tgt := 86) (pc' := 25) hx (hd 14) (by decide) (fun _ => ?_) rfl (fun _ => ?_)
    · skip
      refine r_sub [0, 1, 2, 3, 4] rfl ?_
      exact hj10
    · skip
      refine r_iload (pc' := 27) hx (hd 15) 5 rfl rfl ?_
      refine r_bipush (pc' := 29) (v := 6) hx (hd 16) (by decide) rfl ?_
      refine r_icmp_ge (tgt := 86) (pc' := 32) hx (hd 17) (by decide) (fun _ => ?_) rfl (fun _ => ?_)
      · skip
        refine r_sub [0, 1, 2, 3, 4] rfl ?_
        exact hj10
      · skip
        refine r_aload_n (pc' := 33) hx (hd 18) rfl 1 rfl rfl ?_
        refine r_get (pc' := 36) (v := .ref (p1 + 5)) hx (hd 19) fl_3_66 hp1 rfl (by decide) rfl ?_
        have h16 := hL.1 _ _ _ hp1 1 5 20 6 rfl
        refine r_iload (pc' := 38) hx (hd 20) 5 rfl rfl ?_
        refine r_gd (fun h17 => ?_)
        refine r_iald (pc' := 39) (k := ix v6) hx (hd 21) h16 h17 rfl rfl ?_
        refine r_nmI (fun v18 => ?_)
        refine r_istore (pc' := 41) (L' := [(6, .int v18), (0, .ref t), (1, .ref p1), (2, .int v1), (3, .int v2), (4, .int v5), (5, .int v6)]) hx (hd 22) (by decide) rfl rfl ?_
        refine r_iload (pc' := 43) hx (hd 23) 5 rfl rfl ?_
        refine r_jn1 78 (fun v19 => [(0, .ref t), (1, .ref p1), (2, .int v1), (3, .int v2), (5, .int v6)]) (fun v19 => [.int v19]) (fun v19 => M) (fun v19 => ?_) (fun j20 hj21 => ?_)
        · skip
          refine r_istore (pc' := 80) (L' := [(4, .int v19), (0, .ref t), (1, .ref p1), (2, .int v1), (3, .int v2), (5, .int v6)]) hx (hd 42) (by decide) rfl rfl ?_
          refine r_iinc (pc' := 83) (v := 1) hx (hd 43) 5 rfl (by decide) (by decide) (fun v22 => [(5, .int v22), (4, .int v19), (0, .ref t), (1, .ref p1), (2, .int v1), (3, .int v2)]) (fun _ => rfl) rfl (fun v22 => ?_)
          refine r_goto (tgt := 16) hx (hd 44) (by decide) ?_
          refine r_sub [2, 3, 4, 5, 1, 0] rfl ?_
          exact ih8 v19 v22
        refine r_jn0 77 ([(0, .ref t), (1, .ref p1), (2, .int v1), (3, .int v2), (5, .int v6)]) ([]) (M) (?_) (fun j23 hj24 => ?_)
        · skip
          refine r_iconst (pc' := 78) (v := 0) hx (hd 41) (by decide) rfl ?_
          exact hj21 0
        refine r_if_eq (tgt := 77) (pc' := 46) hx (hd 24) (by decide) (fun _ => ?_) rfl (fun _ => ?_)
        · skip
          refine r_sub [1, 2, 3, 4, 6] rfl ?_
          exact hj24
        · skip
          refine r_iload (pc' := 48) hx (hd 25) 0 rfl rfl ?_
          refine r_callSN (pc' := 51) (As := [.int v18]) (rest := []) hx (hd 26) md_X11_isCard mst_X11_isCard ml_3_69 (cX11_isCard (xl x) w hL v18 M) ⟨Nat.le_of_ble_eq_true rfl, Nat.le_of_ble_eq_true rfl⟩ rfl rfl (Nat.le_of_ble_eq_true rfl) (fun r25 => .int r25 :: []) (fun _ => M) (fun _ => ⟨rfl, rfl⟩) rfl (fun r25 _ => ?_)
          refine r_if_eq (tgt := 77) (pc' := 54) hx (hd 27) (by decide) (fun _ => ?_) rfl (fun _ => ?_)
          · skip
            refine r_sub [1, 2, 3, 4, 6] rfl ?_
            exact hj24
          · skip
            refine r_aload_n (pc' := 55) hx (hd 28) rfl 1 rfl rfl ?_
            refine r_get (pc' := 58) (v := .ref (t + 1)) hx (hd 29) fl_3_11 ht rfl (by decide) rfl ?_
            have h26 := hL.1 _ _ _ ht 0 1 34 15 rfl
            refine r_iload_n (pc' := 59) hx (hd 30) rfl 4 rfl rfl ?_
            refine r_gd (fun h27 => ?_)
            refine r_aald (pc' := 60) (k := ix v2) hx (hd 31) h26 rfl rfl rfl h27 rfl rfl ?_
            have h28 := hL.2 _ _ _ h26 5 1 1 20 52 rfl (ix v2) (inb_lt h27)
            refine r_iload (pc' := 62) hx (hd 32) 0 rfl rfl ?_
            refine r_gd (fun h29 => ?_)
            refine r_iald (pc' := 63) (k := ix v18) hx (hd 33) h28 h29 rfl rfl ?_
            refine r_aload_n (pc' := 64) hx (hd 34) rfl 2 rfl rfl ?_
            refine r_get (pc' := 67) (v := .ref (p1 + 6)) hx (hd 35) fl_3_73 hp1 rfl (by decide) rfl ?_
            have h30 := hL.1 _ _ _ hp1 2 6 20 6 rfl
            refine r_iload (pc' := 69) hx (hd 36) 6 rfl rfl ?_
            refine r_gd (fun h31 => ?_)
            refine r_iald (pc' := 70) (k := ix v6) hx (hd 37) h30 h31 rfl rfl ?_
            refine r_icmp_ne (tgt := 77) (pc' := 73) hx (hd 38) (by decide) (fun _ => ?_) rfl (fun _ => ?_)
            · skip
              refine r_sub [1, 2, 3, 4, 6] rfl ?_
              exact hj24
            · skip
              refine r_iconst (pc' := 74) (v := 1) hx (hd 39) (by decide) rfl ?_
              refine r_goto (tgt := 78) hx (hd 40) (by decide) ?_
              refine r_sub [1, 2, 3, 4, 6] rfl ?_
              exact hj21 1
abbrev yX11_canBe : MethodName := ({ cls := "CribbageRoom", name := "canBe", desc := "()I" } : Jvm.MethodName)
def tbX11_canBe : List (Nat × Instr × Nat) := [(0, .aload_n 0, 1), (1, .getfield 12, 3), (4, .getfield 138, 3), (7, .invokestatic 148, 3), (10, .bipush 6, 2), (12, .if_icmp .eq 5, 3), (15, .iconst (-1), 1), (16, .ireturn, 1), (17, .aload_n 0, 1), (18, .invokevirtual 311, 3), (21, .aload_n 0, 1), (22, .getfield 74, 3), (25, .aload_n 0, 1), (26, .getfield 12, 3), (29, .invokevirtual 352, 3), (32, .ireturn, 1)]
theorem dX11_canBe : ∀ q ∈ tbX11_canBe, decode prog_1_method_31_code q.1 = .ok q.2 := by decide +kernel
set_option maxRecDepth 20000 in
theorem cX11_canBe (l : Launch) (w : WX) (hL : Lay w) (t : Nat) (ht : Wat w t 11 0) (M : Mem) : Ct l w yX11_canBe prog_1_method_31_code 1 (Option.some FieldType.int) 7 176 evIM emM [.ref t] M (FX11_canBe t M) := by
  refine ct_of (by decide) (Nat.le_of_ble_eq_true rfl) (fun x hl hx hb hz => ?_)
  subst hl
  have hd : ∀ i, DAt (xc x).code (tbX11_canBe[i]?) := fun i => by rw [hb]; exact dat_of dX11_canBe i
  show C x w (Qn x w evIM emM) 1 0 [(0, .ref t)] [] M (FX11_canBe t M)
  unfold FX11_canBe
  refine r_aload_n (pc' := 1) hx (hd 0) rfl 0 rfl rfl ?_
  refine r_get (pc' := 4) (v := .ref (t + 1)) hx (hd 1) fl_11_12 ht rfl (by decide) rfl ?_
  have h1 := hL.1 _ _ _ ht 0 1 6 0 rfl
  refine r_get (pc' := 7) (v := .long (mJ M (t + 1) 5)) hx (hd 2) fl_11_138 h1 rfl (by decide) rfl ?_
  refine r_callS (pc' := 10) (As := [.long (mJ M (t + 1) 5)]) (rest := []) hx (hd 3) md_J_Long_bitCount mst_J_Long_bitCount ml_11_148 (cJ_Long_bitCount (xl x) w hL (mJ M (t + 1) 5) M) ⟨Nat.le_of_ble_eq_true rfl, Nat.le_of_ble_eq_true rfl⟩ rfl rfl (Nat.le_of_ble_eq_true rfl) (fun r2 => .int r2 :: []) (fun _ => M) (fun _ => ⟨rfl, rfl⟩) rfl (fun r2 _ => ?_)
  refine r_bipush (pc' := 12) (v := 6) hx (hd 4) (by decide) rfl ?_
  refine r_icmp_eq (tgt := 17) (pc' := 15) hx (hd 5) (by decide) (fun _ => ?_) rfl (fun _ => ?_)
  · skip
    refine r_aload_n (pc' := 18) hx (hd 8) rfl 0 rfl rfl ?_
    refine r_callVU (pc' := 21) (As := []) (rest := []) hx (hd 9) md_X11_countFours mi_X11_countFours ms_X11_countFours ml_11_311 (cX11_countFours (xl x) w hL t ht M) ht rfl (by decide) ⟨Nat.le_of_ble_eq_true rfl, Nat.le_of_ble_eq_true rfl⟩ rfl rfl (Nat.le_of_ble_eq_true rfl) rfl (fun M3 => ?_)
    refine r_aload_n (pc' := 22) hx (hd 10) rfl 0 rfl rfl ?_
    refine r_get (pc' := 25) (v := .ref (t + 209)) hx (hd 11) fl_11_74 ht rfl (by decide) rfl ?_
    have h4 := hL.1 _ _ _ ht 11 209 3 0 rfl
    refine r_aload_n (pc' := 26) hx (hd 12) rfl 0 rfl rfl ?_
    refine r_get (pc' := 29) (v := .ref (t + 1)) hx (hd 13) fl_11_12 ht rfl (by decide) rfl ?_
    have h5 := hL.1 _ _ _ ht 0 1 6 0 rfl
    refine r_callV (pc' := 32) (As := [.ref (t + 1)]) (rest := []) hx (hd 14) md_X3_likely mi_X3_likely ms_X3_likely ml_11_352 (cX3_likely (xl x) w hL (t + 209) h4 (t + 1) h5 M3) h4 rfl (by decide) ⟨Nat.le_of_ble_eq_true rfl, Nat.le_of_ble_eq_true rfl⟩ rfl rfl (Nat.le_of_ble_eq_true rfl) (fun r6 => .int r6 :: []) (fun _ => M3) (fun _ => ⟨rfl, rfl⟩) rfl (fun r6 _ => ?_)
    exact r_iret hx (hd 15) rfl rfl hz
  · skip
    refine r_iconst (pc' := 16) (v := (-1)) hx (hd 6) (by decide) rfl ?_
    exact r_iret hx (hd 7) rfl rfl hz
abbrev yX3_mostAlike : MethodName := ({ cls := "CribbageRoom$Fours", name := "mostAlike", desc := "(II)I" } : Jvm.MethodName)
def tbX3_mostAlike : List (Nat × Instr × Nat) := [(0, .iconst 0, 1), (1, .istore_n 3, 1), (2, .iconst 0, 1), (3, .istore 4, 2), (5, .iload 4, 2), (7, .bipush 15, 2), (9, .if_icmp .ge 87, 3), (12, .iload_n 2, 1), (13, .invokestatic 69, 3), (16, .ifCond .eq 80, 3), (19, .iconst 0, 1), (20, .istore 5, 2), (22, .iload 4, 2), (24, .istore 6, 2), (26, .iload 6, 2), (28, .bipush 15, 2), (30, .if_icmp .ge 53, 3), (33, .iload_n 1, 1), (34, .iload 4, 2), (36, .ishr, 1), (37, .iconst 1, 1), (38, .iand, 1), (39, .iconst 1, 1), (40, .if_icmp .ne 43, 3), (43, .iload_n 1, 1), (44, .iload 6, 2), (46, .ishr, 1), (47, .iconst 1, 1), (48, .iand, 1), (49, .iconst 1, 1), (50, .if_icmp .ne 27, 3), (53, .aload_n 0, 1), (54, .getfield 11, 3), (57, .iload 6, 2), (59, .aaload, 1), (60, .iload_n 2, 1), (61, .iaload, 1), (62, .aload_n 0, 1), (63, .getfield 11, 3), (66, .iload 4, 2), (68, .aaload, 1), (69, .iload_n 2, 1), (70, .iaload, 1), (71, .if_icmp .ne 6, 3), (74, .iinc 5 1, 3), (77, .iinc 6 1, 3), (80, .goto (-54), 3), (83, .iload_n 3, 1), (84, .iload 5, 2), (86, .invokestatic 51, 3), (89, .istore_n 3, 1), (90, .iinc 4 1, 3), (93, .goto (-88), 3), (96, .iload_n 3, 1), (97, .ireturn, 1)]
theorem dX3_mostAlike : ∀ q ∈ tbX3_mostAlike, decode prog_5_method_8_code q.1 = .ok q.2 := by decide +kernel
set_option maxRecDepth 20000 in
theorem cX3_mostAlike (l : Launch) (w : WX) (hL : Lay w) (t : Nat) (ht : Wat w t 3 0) (p1 : Int32) (p2 : Int32) (M : Mem) : Ct l w yX3_mostAlike prog_5_method_8_code 7 (Option.some FieldType.int) 1 30 evI (emC M) [.ref t, .int p1, .int p2] M (FX3_mostAlike t p1 p2 M) := by
  refine ct_of (by decide) (Nat.le_of_ble_eq_true rfl) (fun x hl hx hb hz => ?_)
  subst hl
  have hd : ∀ i, DAt (xc x).code (tbX3_mostAlike[i]?) := fun i => by rw [hb]; exact dat_of dX3_mostAlike i
  show C x w (Qn x w evI (emC M)) 7 0 [(0, .ref t), (1, .int p1), (2, .int p2)] [] M (FX3_mostAlike t p1 p2 M)
  unfold FX3_mostAlike
  refine r_iconst (pc' := 1) (v := 0) hx (hd 0) (by decide) rfl ?_
  refine r_istore_n (pc' := 2) (L' := [(3, .int 0), (0, .ref t), (1, .int p1), (2, .int p2)]) hx (hd 1) rfl (by decide) rfl rfl ?_
  refine r_iconst (pc' := 3) (v := 0) hx (hd 2) (by decide) rfl ?_
  refine r_istore (pc' := 5) (L' := [(4, .int 0), (3, .int 0), (0, .ref t), (1, .int p1), (2, .int p2)]) hx (hd 3) (by decide) rfl rfl ?_
  refine r_sub [2, 3, 4, 1, 0] rfl ?_
  refine r_wl2 (fun v1 v2 => [(0, .ref t), (1, .int p1), (2, .int p2), (3, .int v1), (4, .int v2)]) (fun v1 v2 => []) (fun v1 v2 => M) (fun v1 v2 rec3 ih4 => ?_) fuel 0 0
  refine r_iload (pc' := 7) hx (hd 4) 4 rfl rfl ?_
  refine r_bipush (pc' := 9) (v := 15) hx (hd 5) (by decide) rfl ?_
  refine r_jn0 96 ([(3, .int v1)]) ([]) (M) (?_) (fun j5 hj6 => ?_)
  · skip
    refine r_iload_n (pc' := 97) hx (hd 53) rfl 0 rfl rfl ?_
    exact r_iret hx (hd 54) rfl rfl hz
  refine r_icmp_ge (tgt := 96) (pc' := 12) hx (hd 6) (by decide) (fun _ => ?_) rfl (fun _ => ?_)
  · skip
    refine r_sub [3] rfl ?_
    exact hj6
  · skip
    refine r_iload_n (pc' := 13) hx (hd 7) rfl 2 rfl rfl ?_
    refine r_callSN (pc' := 16) (As := [.int p2]) (rest := []) hx (hd 8) md_X11_isCard mst_X11_isCard ml_3_69 (cX11_isCard (xl x) w hL p2 M) ⟨Nat.le_of_ble_eq_true rfl, Nat.le_of_ble_eq_true rfl⟩ rfl rfl (Nat.le_of_ble_eq_true rfl) (fun r7 => .int r7 :: []) (fun _ => M) (fun _ => ⟨rfl, rfl⟩) rfl (fun r7 _ => ?_)
    refine r_if_eq (tgt := 96) (pc' := 19) hx (hd 9) (by decide) (fun _ => ?_) rfl (fun _ => ?_)
    · skip
      refine r_sub [3] rfl ?_
      exact hj6
    · skip
      refine r_iconst (pc' := 20) (v := 0) hx (hd 10) (by decide) rfl ?_
      refine r_istore (pc' := 22) (L' := [(5, .int 0), (0, .ref t), (1, .int p1), (2, .int p2), (3, .int v1), (4, .int v2)]) hx (hd 11) (by decide) rfl rfl ?_
      refine r_iload (pc' := 24) hx (hd 12) 5 rfl rfl ?_
      refine r_istore (pc' := 26) (L' := [(6, .int v2), (5, .int 0), (0, .ref t), (1, .int p1), (2, .int p2), (3, .int v1), (4, .int v2)]) hx (hd 13) (by decide) rfl rfl ?_
      refine r_sub [2, 3, 4, 5, 6, 1, 0] rfl ?_
      refine r_wl2 (fun v8 v9 => [(0, .ref t), (1, .int p1), (2, .int p2), (3, .int v1), (4, .int v2), (5, .int v8), (6, .int v9)]) (fun v8 v9 => []) (fun v8 v9 => M) (fun v8 v9 rec10 ih11 => ?_) fuel 0 v2
      refine r_iload (pc' := 28) hx (hd 14) 6 rfl rfl ?_
      refine r_bipush (pc' := 30) (v := 15) hx (hd 15) (by decide) rfl ?_
      refine r_jn0 83 ([(0, .ref t), (1, .int p1), (2, .int p2), (3, .int v1), (4, .int v2), (5, .int v8)]) ([]) (M) (?_) (fun j12 hj13 => ?_)
      · skip
        refine r_iload_n (pc' := 84) hx (hd 47) rfl 3 rfl rfl ?_
        refine r_iload (pc' := 86) hx (hd 48) 5 rfl rfl ?_
        refine r_mmax (pc' := 89) hx (hd 49) ml_3_51 ⟨Nat.le_of_ble_eq_true rfl, Nat.le_of_ble_eq_true rfl⟩ (Nat.le_of_ble_eq_true rfl) rfl ?_
        refine r_nmI (fun v14 => ?_)
        refine r_istore_n (pc' := 90) (L' := [(3, .int v14), (0, .ref t), (1, .int p1), (2, .int p2), (4, .int v2), (5, .int v8)]) hx (hd 50) rfl (by decide) rfl rfl ?_
        refine r_iinc (pc' := 93) (v := 1) hx (hd 51) 4 rfl (by decide) (by decide) (fun v15 => [(4, .int v15), (3, .int v14), (0, .ref t), (1, .int p1), (2, .int p2), (5, .int v8)]) (fun _ => rfl) rfl (fun v15 => ?_)
        refine r_goto (tgt := 5) hx (hd 52) (by decide) ?_
        refine r_sub [2, 3, 4, 1, 0] rfl ?_
        exact ih4 v14 v15
      refine r_icmp_ge (tgt := 83) (pc' := 33) hx (hd 16) (by decide) (fun _ => ?_) rfl (fun _ => ?_)
      · skip
        refine r_sub [0, 1, 2, 3, 4, 5] rfl ?_
        exact hj13
      · skip
        refine r_iload_n (pc' := 34) hx (hd 17) rfl 1 rfl rfl ?_
        refine r_iload (pc' := 36) hx (hd 18) 4 rfl rfl ?_
        refine r_ishr (pc' := 37) hx (hd 19) rfl ?_
        refine r_iconst (pc' := 38) (v := 1) hx (hd 20) (by decide) rfl ?_
        refine r_iand (pc' := 39) hx (hd 21) rfl ?_
        refine r_iconst (pc' := 40) (v := 1) hx (hd 22) (by decide) rfl ?_
        refine r_icmp_ne (tgt := 83) (pc' := 43) hx (hd 23) (by decide) (fun _ => ?_) rfl (fun _ => ?_)
        · skip
          refine r_sub [0, 1, 2, 3, 4, 5] rfl ?_
          exact hj13
        · skip
          refine r_iload_n (pc' := 44) hx (hd 24) rfl 1 rfl rfl ?_
          refine r_iload (pc' := 46) hx (hd 25) 6 rfl rfl ?_
          refine r_ishr (pc' := 47) hx (hd 26) rfl ?_
          refine r_iconst (pc' := 48) (v := 1) hx (hd 27) (by decide) rfl ?_
          refine r_iand (pc' := 49) hx (hd 28) rfl ?_
          refine r_iconst (pc' := 50) (v := 1) hx (hd 29) (by decide) rfl ?_
          refine r_jn1 77 (fun v16 => [(0, .ref t), (1, .int p1), (2, .int p2), (3, .int v1), (4, .int v2), (5, .int v16), (6, .int v9)]) (fun v16 => []) (fun v16 => M) (fun v16 => ?_) (fun j17 hj18 => ?_)
          · skip
            refine r_iinc (pc' := 80) (v := 1) hx (hd 45) 6 rfl (by decide) (by decide) (fun v19 => [(6, .int v19), (0, .ref t), (1, .int p1), (2, .int p2), (3, .int v1), (4, .int v2), (5, .int v16)]) (fun _ => rfl) rfl (fun v19 => ?_)
            refine r_goto (tgt := 26) hx (hd 46) (by decide) ?_
            refine r_sub [1, 2, 3, 4, 5, 6, 0] rfl ?_
            exact ih11 v16 v19
          refine r_icmp_ne (tgt := 77) (pc' := 53) hx (hd 30) (by decide) (fun _ => ?_) rfl (fun _ => ?_)
          · skip
            exact hj18 v8
          · skip
            refine r_aload_n (pc' := 54) hx (hd 31) rfl 0 rfl rfl ?_
            refine r_get (pc' := 57) (v := .ref (t + 1)) hx (hd 32) fl_3_11 ht rfl (by decide) rfl ?_
            have h20 := hL.1 _ _ _ ht 0 1 34 15 rfl
            refine r_iload (pc' := 59) hx (hd 33) 6 rfl rfl ?_
            refine r_gd (fun h21 => ?_)
            refine r_aald (pc' := 60) (k := ix v9) hx (hd 34) h20 rfl rfl rfl h21 rfl rfl ?_
            have h22 := hL.2 _ _ _ h20 5 1 1 20 52 rfl (ix v9) (inb_lt h21)
            refine r_iload_n (pc' := 61) hx (hd 35) rfl 2 rfl rfl ?_
            refine r_gd (fun h23 => ?_)
            refine r_iald (pc' := 62) (k := ix p2) hx (hd 36) h22 h23 rfl rfl ?_
            refine r_aload_n (pc' := 63) hx (hd 37) rfl 0 rfl rfl ?_
            refine r_get (pc' := 66) (v := .ref (t + 1)) hx (hd 38) fl_3_11 ht rfl (by decide) rfl ?_
            have h24 := hL.1 _ _ _ ht 0 1 34 15 rfl
            refine r_iload (pc' := 68) hx (hd 39) 4 rfl rfl ?_
            refine r_gd (fun h25 => ?_)
            refine r_aald (pc' := 69) (k := ix v2) hx (hd 40) h24 rfl rfl rfl h25 rfl rfl ?_
            have h26 := hL.2 _ _ _ h24 5 1 1 20 52 rfl (ix v2) (inb_lt h25)
            refine r_iload_n (pc' := 70) hx (hd 41) rfl 2 rfl rfl ?_
            refine r_gd (fun h27 => ?_)
            refine r_iald (pc' := 71) (k := ix p2) hx (hd 42) h26 h27 rfl rfl ?_
            refine r_icmp_ne (tgt := 77) (pc' := 74) hx (hd 43) (by decide) (fun _ => ?_) rfl (fun _ => ?_)
            · skip
              exact hj18 v8
            · skip
              refine r_iinc (pc' := 77) (v := 1) hx (hd 44) 5 rfl (by decide) (by decide) (fun v28 => [(5, .int v28), (0, .ref t), (1, .int p1), (2, .int p2), (3, .int v1), (4, .int v2), (6, .int v9)]) (fun _ => rfl) rfl (fun v28 => ?_)
              refine r_sub [1, 2, 3, 4, 5, 0, 6] rfl ?_
              exact hj18 v28
abbrev yX3_sharpest : MethodName := ({ cls := "CribbageRoom$Fours", name := "sharpest", desc := "(I)I" } : Jvm.MethodName)
def tbX3_sharpest : List (Nat × Instr × Nat) := [(0, .iconst (-1), 1), (1, .istore_n 2, 1), (2, .bipush 16, 2), (4, .istore_n 3, 1), (5, .iconst 0, 1), (6, .istore 4, 2), (8, .iload 4, 2), (10, .bipush 52, 2), (12, .if_icmp .ge 46, 3), (15, .aload_n 0, 1), (16, .getfield 23, 3), (19, .iload 4, 2), (21, .invokestatic 43, 3), (24, .ifCond .eq 7, 3), (27, .iload_n 3, 1), (28, .goto 10, 3), (31, .aload_n 0, 1), (32, .iload_n 1, 1), (33, .iload 4, 2), (35, .invokevirtual 76, 3), (38, .istore 5, 2), (40, .iload 5, 2), (42, .iload_n 3, 1), (43, .if_icmp .ge 9, 3), (46, .iload 5, 2), (48, .istore_n 3, 1), (49, .iload 4, 2), (51, .istore_n 2, 1), (52, .iinc 4 1, 3), (55, .goto (-47), 3), (58, .iload_n 2, 1), (59, .ireturn, 1)]
theorem dX3_sharpest : ∀ q ∈ tbX3_sharpest, decode prog_5_method_9_code q.1 = .ok q.2 := by decide +kernel
set_option maxRecDepth 20000 in
theorem cX3_sharpest (l : Launch) (w : WX) (hL : Lay w) (t : Nat) (ht : Wat w t 3 0) (p1 : Int32) (M : Mem) : Ct l w yX3_sharpest prog_5_method_9_code 6 (Option.some FieldType.int) 2 56 evI (emC M) [.ref t, .int p1] M (FX3_sharpest t p1 M) := by
  refine ct_of (by decide) (Nat.le_of_ble_eq_true rfl) (fun x hl hx hb hz => ?_)
  subst hl
  have hd : ∀ i, DAt (xc x).code (tbX3_sharpest[i]?) := fun i => by rw [hb]; exact dat_of dX3_sharpest i
  show C x w (Qn x w evI (emC M)) 6 0 [(0, .ref t), (1, .int p1)] [] M (FX3_sharpest t p1 M)
  unfold FX3_sharpest
  refine r_iconst (pc' := 1) (v := (-1)) hx (hd 0) (by decide) rfl ?_
  refine r_istore_n (pc' := 2) (L' := [(2, .int (-1)), (0, .ref t), (1, .int p1)]) hx (hd 1) rfl (by decide) rfl rfl ?_
  refine r_bipush (pc' := 4) (v := 16) hx (hd 2) (by decide) rfl ?_
  refine r_istore_n (pc' := 5) (L' := [(3, .int 16), (2, .int (-1)), (0, .ref t), (1, .int p1)]) hx (hd 3) rfl (by decide) rfl rfl ?_
  refine r_iconst (pc' := 6) (v := 0) hx (hd 4) (by decide) rfl ?_
  refine r_istore (pc' := 8) (L' := [(4, .int 0), (3, .int 16), (2, .int (-1)), (0, .ref t), (1, .int p1)]) hx (hd 5) (by decide) rfl rfl ?_
  refine r_sub [3, 4, 2, 1, 0] rfl ?_
  refine r_wl3 (fun v1 v2 v3 => [(0, .ref t), (1, .int p1), (2, .int v1), (3, .int v2), (4, .int v3)]) (fun v1 v2 v3 => []) (fun v1 v2 v3 => M) (fun v1 v2 v3 rec4 ih5 => ?_) fuel (-1) 16 0
  refine r_iload (pc' := 10) hx (hd 6) 4 rfl rfl ?_
  refine r_bipush (pc' := 12) (v := 52) hx (hd 7) (by decide) rfl ?_
  refine r_icmp_ge (tgt := 58) (pc' := 15) hx (hd 8) (by decide) (fun _ => ?_) rfl (fun _ => ?_)
  · skip
    refine r_iload_n (pc' := 59) hx (hd 30) rfl 2 rfl rfl ?_
    exact r_iret hx (hd 31) rfl rfl hz
  · skip
    refine r_aload_n (pc' := 16) hx (hd 9) rfl 0 rfl rfl ?_
    refine r_get (pc' := 19) (v := .long (mJ M t 3)) hx (hd 10) fl_3_23 ht rfl (by decide) rfl ?_
    refine r_iload (pc' := 21) hx (hd 11) 4 rfl rfl ?_
    refine r_callSN (pc' := 24) (As := [.long (mJ M t 3), .int v3]) (rest := []) hx (hd 12) md_X11_has mst_X11_has ml_3_43 (cX11_has (xl x) w hL (mJ M t 3) v3 M) ⟨Nat.le_of_ble_eq_true rfl, Nat.le_of_ble_eq_true rfl⟩ rfl rfl (Nat.le_of_ble_eq_true rfl) (fun r6 => .int r6 :: []) (fun _ => M) (fun _ => ⟨rfl, rfl⟩) rfl (fun r6 _ => ?_)
    refine r_jn1 38 (fun v7 => [(0, .ref t), (1, .int p1), (2, .int v1), (3, .int v2), (4, .int v3)]) (fun v7 => [.int v7]) (fun v7 => M) (fun v7 => ?_) (fun j8 hj9 => ?_)
    · skip
      refine r_istore (pc' := 40) (L' := [(5, .int v7), (0, .ref t), (1, .int p1), (2, .int v1), (3, .int v2), (4, .int v3)]) hx (hd 20) (by decide) rfl rfl ?_
      refine r_iload (pc' := 42) hx (hd 21) 0 rfl rfl ?_
      refine r_iload_n (pc' := 43) hx (hd 22) rfl 4 rfl rfl ?_
      refine r_jn2 52 (fun v10 v11 => [(0, .ref t), (1, .int p1), (2, .int v10), (3, .int v11), (4, .int v3)]) (fun v10 v11 => []) (fun v10 v11 => M) (fun v10 v11 => ?_) (fun j12 hj13 => ?_)
      · skip
        refine r_iinc (pc' := 55) (v := 1) hx (hd 28) 4 rfl (by decide) (by decide) (fun v14 => [(4, .int v14), (0, .ref t), (1, .int p1), (2, .int v10), (3, .int v11)]) (fun _ => rfl) rfl (fun v14 => ?_)
        refine r_goto (tgt := 8) hx (hd 29) (by decide) ?_
        refine r_sub [1, 2, 3, 4, 0] rfl ?_
        exact ih5 v10 v11 v14
      refine r_icmp_ge (tgt := 52) (pc' := 46) hx (hd 23) (by decide) (fun _ => ?_) rfl (fun _ => ?_)
      · skip
        refine r_sub [1, 2, 3, 4, 5] rfl ?_
        exact hj13 v1 v2
      · skip
        refine r_iload (pc' := 48) hx (hd 24) 0 rfl rfl ?_
        refine r_istore_n (pc' := 49) (L' := [(3, .int v7), (5, .int v7), (0, .ref t), (1, .int p1), (2, .int v1), (4, .int v3)]) hx (hd 25) rfl (by decide) rfl rfl ?_
        refine r_iload (pc' := 51) hx (hd 26) 5 rfl rfl ?_
        refine r_istore_n (pc' := 52) (L' := [(2, .int v3), (3, .int v7), (5, .int v7), (0, .ref t), (1, .int p1), (4, .int v3)]) hx (hd 27) rfl (by decide) rfl rfl ?_
        refine r_sub [3, 4, 0, 1, 5] rfl ?_
        exact hj13 v3 v7
    refine r_if_eq (tgt := 31) (pc' := 27) hx (hd 13) (by decide) (fun _ => ?_) rfl (fun _ => ?_)
    · skip
      refine r_aload_n (pc' := 32) hx (hd 16) rfl 0 rfl rfl ?_
      refine r_iload_n (pc' := 33) hx (hd 17) rfl 1 rfl rfl ?_
      refine r_iload (pc' := 35) hx (hd 18) 4 rfl rfl ?_
      refine r_callV (pc' := 38) (As := [.int p1, .int v3]) (rest := []) hx (hd 19) md_X3_mostAlike mi_X3_mostAlike ms_X3_mostAlike ml_3_76 (cX3_mostAlike (xl x) w hL t ht p1 v3 M) ht rfl (by decide) ⟨Nat.le_of_ble_eq_true rfl, Nat.le_of_ble_eq_true rfl⟩ rfl rfl (Nat.le_of_ble_eq_true rfl) (fun r15 => .int r15 :: []) (fun _ => M) (fun _ => ⟨rfl, rfl⟩) rfl (fun r15 _ => ?_)
      exact hj9 r15
    · skip
      refine r_iload_n (pc' := 28) hx (hd 14) rfl 3 rfl rfl ?_
      refine r_goto (tgt := 38) hx (hd 15) (by decide) ?_
      exact hj9 v2
abbrev yX11_ask : MethodName := ({ cls := "CribbageRoom", name := "ask", desc := "(I)I" } : Jvm.MethodName)
def tbX11_ask : List (Nat × Instr × Nat) := [(0, .iload_n 1, 1), (1, .ifCond .lt 23, 3), (4, .iload_n 1, 1), (5, .iconst 1, 1), (6, .if_icmp .gt 18, 3), (9, .aload_n 0, 1), (10, .getfield 12, 3), (13, .getfield 138, 3), (16, .invokestatic 148, 3), (19, .bipush 6, 2), (21, .if_icmp .eq 5, 3), (24, .iconst (-1), 1), (25, .ireturn, 1), (26, .aload_n 0, 1), (27, .invokevirtual 311, 3), (30, .aload_n 0, 1), (31, .getfield 74, 3), (34, .aload_n 0, 1), (35, .getfield 12, 3), (38, .invokevirtual 352, 3), (41, .istore_n 2, 1), (42, .iload_n 2, 1), (43, .ifCond .ne 5, 3), (46, .iconst (-1), 1), (47, .ireturn, 1), (48, .aload_n 0, 1), (49, .getfield 74, 3), (52, .iload_n 2, 1), (53, .invokevirtual 356, 3), (56, .istore_n 3, 1), (57, .iload_n 1, 1), (58, .ifCond .ne 7, 3), (61, .iload_n 3, 1), (62, .goto 12, 3), (65, .aload_n 0, 1), (66, .getfield 74, 3), (69, .iload_n 2, 1), (70, .iload_n 3, 1), (71, .invokevirtual 359, 3), (74, .ireturn, 1)]
theorem dX11_ask : ∀ q ∈ tbX11_ask, decode prog_1_method_32_code q.1 = .ok q.2 := by decide +kernel
set_option maxRecDepth 20000 in
theorem cX11_ask (l : Launch) (w : WX) (hL : Lay w) (t : Nat) (ht : Wat w t 11 0) (p1 : Int32) (M : Mem) : Ct l w yX11_ask prog_1_method_32_code 4 (Option.some FieldType.int) 7 176 evIM emM [.ref t, .int p1] M (FX11_ask t p1 M) := by
  refine ct_of (by decide) (Nat.le_of_ble_eq_true rfl) (fun x hl hx hb hz => ?_)
  subst hl
  have hd : ∀ i, DAt (xc x).code (tbX11_ask[i]?) := fun i => by rw [hb]; exact dat_of dX11_ask i
  show C x w (Qn x w evIM emM) 4 0 [(0, .ref t), (1, .int p1)] [] M (FX11_ask t p1 M)
  unfold FX11_ask
  refine r_iload_n (pc' := 1) hx (hd 0) rfl 1 rfl rfl ?_
  refine r_jn0 24 ([]) ([]) (M) (?_) (fun j1 hj2 => ?_)
  · skip
    refine r_iconst (pc' := 25) (v := (-1)) hx (hd 11) (by decide) rfl ?_
    exact r_iret hx (hd 12) rfl rfl hz
  refine r_if_lt (tgt := 24) (pc' := 4) hx (hd 1) (by decide) (fun _ => ?_) rfl (fun _ => ?_)
  · skip
    refine r_sub [] rfl ?_
    exact hj2
  · skip
    refine r_iload_n (pc' := 5) hx (hd 2) rfl 1 rfl rfl ?_
    refine r_iconst (pc' := 6) (v := 1) hx (hd 3) (by decide) rfl ?_
    refine r_icmp_gt (tgt := 24) (pc' := 9) hx (hd 4) (by decide) (fun _ => ?_) rfl (fun _ => ?_)
    · skip
      refine r_sub [] rfl ?_
      exact hj2
    · skip
      refine r_aload_n (pc' := 10) hx (hd 5) rfl 0 rfl rfl ?_
      refine r_get (pc' := 13) (v := .ref (t + 1)) hx (hd 6) fl_11_12 ht rfl (by decide) rfl ?_
      have h3 := hL.1 _ _ _ ht 0 1 6 0 rfl
      refine r_get (pc' := 16) (v := .long (mJ M (t + 1) 5)) hx (hd 7) fl_11_138 h3 rfl (by decide) rfl ?_
      refine r_callS (pc' := 19) (As := [.long (mJ M (t + 1) 5)]) (rest := []) hx (hd 8) md_J_Long_bitCount mst_J_Long_bitCount ml_11_148 (cJ_Long_bitCount (xl x) w hL (mJ M (t + 1) 5) M) ⟨Nat.le_of_ble_eq_true rfl, Nat.le_of_ble_eq_true rfl⟩ rfl rfl (Nat.le_of_ble_eq_true rfl) (fun r4 => .int r4 :: []) (fun _ => M) (fun _ => ⟨rfl, rfl⟩) rfl (fun r4 _ => ?_)
      refine r_bipush (pc' := 21) (v := 6) hx (hd 9) (by decide) rfl ?_
      refine r_icmp_eq (tgt := 26) (pc' := 24) hx (hd 10) (by decide) (fun _ => ?_) rfl (fun _ => ?_)
      · skip
        refine r_aload_n (pc' := 27) hx (hd 13) rfl 0 rfl rfl ?_
        refine r_callVU (pc' := 30) (As := []) (rest := []) hx (hd 14) md_X11_countFours mi_X11_countFours ms_X11_countFours ml_11_311 (cX11_countFours (xl x) w hL t ht M) ht rfl (by decide) ⟨Nat.le_of_ble_eq_true rfl, Nat.le_of_ble_eq_true rfl⟩ rfl rfl (Nat.le_of_ble_eq_true rfl) rfl (fun M5 => ?_)
        refine r_aload_n (pc' := 31) hx (hd 15) rfl 0 rfl rfl ?_
        refine r_get (pc' := 34) (v := .ref (t + 209)) hx (hd 16) fl_11_74 ht rfl (by decide) rfl ?_
        have h6 := hL.1 _ _ _ ht 11 209 3 0 rfl
        refine r_aload_n (pc' := 35) hx (hd 17) rfl 0 rfl rfl ?_
        refine r_get (pc' := 38) (v := .ref (t + 1)) hx (hd 18) fl_11_12 ht rfl (by decide) rfl ?_
        have h7 := hL.1 _ _ _ ht 0 1 6 0 rfl
        refine r_callV (pc' := 41) (As := [.ref (t + 1)]) (rest := []) hx (hd 19) md_X3_likely mi_X3_likely ms_X3_likely ml_11_352 (cX3_likely (xl x) w hL (t + 209) h6 (t + 1) h7 M5) h6 rfl (by decide) ⟨Nat.le_of_ble_eq_true rfl, Nat.le_of_ble_eq_true rfl⟩ rfl rfl (Nat.le_of_ble_eq_true rfl) (fun r8 => .int r8 :: []) (fun _ => M5) (fun _ => ⟨rfl, rfl⟩) rfl (fun r8 _ => ?_)
        refine r_istore_n (pc' := 42) (L' := [(2, .int r8), (0, .ref t), (1, .int p1)]) hx (hd 20) rfl (by decide) rfl rfl ?_
        refine r_iload_n (pc' := 43) hx (hd 21) rfl 0 rfl rfl ?_
        refine r_if_ne (tgt := 48) (pc' := 46) hx (hd 22) (by decide) (fun _ => ?_) rfl (fun _ => ?_)
        · skip
          refine r_aload_n (pc' := 49) hx (hd 25) rfl 1 rfl rfl ?_
          refine r_get (pc' := 52) (v := .ref (t + 209)) hx (hd 26) fl_11_74 ht rfl (by decide) rfl ?_
          have h9 := hL.1 _ _ _ ht 11 209 3 0 rfl
          refine r_iload_n (pc' := 53) hx (hd 27) rfl 0 rfl rfl ?_
          refine r_callV (pc' := 56) (As := [.int r8]) (rest := []) hx (hd 28) md_X3_sharpest mi_X3_sharpest ms_X3_sharpest ml_11_356 (cX3_sharpest (xl x) w hL (t + 209) h9 r8 M5) h9 rfl (by decide) ⟨Nat.le_of_ble_eq_true rfl, Nat.le_of_ble_eq_true rfl⟩ rfl rfl (Nat.le_of_ble_eq_true rfl) (fun r10 => .int r10 :: []) (fun _ => M5) (fun _ => ⟨rfl, rfl⟩) rfl (fun r10 _ => ?_)
          refine r_istore_n (pc' := 57) (L' := [(3, .int r10), (2, .int r8), (0, .ref t), (1, .int p1)]) hx (hd 29) rfl (by decide) rfl rfl ?_
          refine r_iload_n (pc' := 58) hx (hd 30) rfl 3 rfl rfl ?_
          refine r_jn1 74 (fun v11 => []) (fun v11 => [.int v11]) (fun v11 => M5) (fun v11 => ?_) (fun j12 hj13 => ?_)
          · skip
            exact r_iret hx (hd 39) rfl rfl hz
          refine r_if_ne (tgt := 65) (pc' := 61) hx (hd 31) (by decide) (fun _ => ?_) rfl (fun _ => ?_)
          · skip
            refine r_aload_n (pc' := 66) hx (hd 34) rfl 2 rfl rfl ?_
            refine r_get (pc' := 69) (v := .ref (t + 209)) hx (hd 35) fl_11_74 ht rfl (by decide) rfl ?_
            have h14 := hL.1 _ _ _ ht 11 209 3 0 rfl
            refine r_iload_n (pc' := 70) hx (hd 36) rfl 1 rfl rfl ?_
            refine r_iload_n (pc' := 71) hx (hd 37) rfl 0 rfl rfl ?_
            refine r_callV (pc' := 74) (As := [.int r8, .int r10]) (rest := []) hx (hd 38) md_X3_mostAlike mi_X3_mostAlike ms_X3_mostAlike ml_11_359 (cX3_mostAlike (xl x) w hL (t + 209) h14 r8 r10 M5) h14 rfl (by decide) ⟨Nat.le_of_ble_eq_true rfl, Nat.le_of_ble_eq_true rfl⟩ rfl rfl (Nat.le_of_ble_eq_true rfl) (fun r15 => .int r15 :: []) (fun _ => M5) (fun _ => ⟨rfl, rfl⟩) rfl (fun r15 _ => ?_)
            refine r_sub [] rfl ?_
            exact hj13 r15
          · skip
            refine r_iload_n (pc' := 62) hx (hd 32) rfl 0 rfl rfl ?_
            refine r_goto (tgt := 74) hx (hd 33) (by decide) ?_
            refine r_sub [] rfl ?_
            exact hj13 r10
        · skip
          refine r_iconst (pc' := 47) (v := (-1)) hx (hd 23) (by decide) rfl ?_
          exact r_iret hx (hd 24) rfl rfl hz
      · skip
        refine r_sub [] rfl ?_
        exact hj2
abbrev yX11_compare : MethodName := ({ cls := "CribbageRoom", name := "compare", desc := "(II)I" } : Jvm.MethodName)
def tbX11_compare : List (Nat × Instr × Nat) := [(0, .aload_n 0, 1), (1, .iload_n 1, 1), (2, .invokevirtual 278, 3), (5, .ifCond .eq 11, 3), (8, .aload_n 0, 1), (9, .iload_n 2, 1), (10, .invokevirtual 301, 3), (13, .ifCond .ne 5, 3), (16, .iconst (-1), 1), (17, .ireturn, 1), (18, .aload_n 0, 1), (19, .getfield 61, 3), (22, .aload_n 0, 1), (23, .getfield 12, 3), (26, .iload_n 1, 1), (27, .aload_n 0, 1), (28, .getfield 12, 3), (31, .getfield 113, 3), (34, .invokevirtual 116, 3), (37, .aload_n 0, 1), (38, .getfield 67, 3), (41, .aload_n 0, 1), (42, .getfield 12, 3), (45, .getfield 138, 3), (48, .iconst 0, 1), (49, .aload_n 0, 1), (50, .getfield 61, 3), (53, .invokevirtual 304, 3), (56, .aload_n 0, 1), (57, .getfield 67, 3), (60, .iload_n 2, 1), (61, .iconst 0, 1), (62, .invokevirtual 308, 3), (65, .ireturn, 1)]
theorem dX11_compare : ∀ q ∈ tbX11_compare, decode prog_1_method_34_code q.1 = .ok q.2 := by decide +kernel
set_option maxRecDepth 20000 in
theorem cX11_compare (l : Launch) (w : WX) (hL : Lay w) (t : Nat) (ht : Wat w t 11 0) (p1 : Int32) (p2 : Int32) (M : Mem) : Ct l w yX11_compare prog_1_method_34_code 3 (Option.some FieldType.int) 6 156 evIM emM [.ref t, .int p1, .int p2] M (FX11_compare t p1 p2 M) := by
  refine ct_of (by decide) (Nat.le_of_ble_eq_true rfl) (fun x hl hx hb hz => ?_)
  subst hl
  have hd : ∀ i, DAt (xc x).code (tbX11_compare[i]?) := fun i => by rw [hb]; exact dat_of dX11_compare i
  show C x w (Qn x w evIM emM) 3 0 [(0, .ref t), (1, .int p1), (2, .int p2)] [] M (FX11_compare t p1 p2 M)
  unfold FX11_compare
  refine r_aload_n (pc' := 1) hx (hd 0) rfl 0 rfl rfl ?_
  refine r_iload_n (pc' := 2) hx (hd 1) rfl 1 rfl rfl ?_
  refine r_callV (pc' := 5) (As := [.int p1]) (rest := []) hx (hd 2) md_X11_isLaw mi_X11_isLaw ms_X11_isLaw ml_11_278 (cX11_isLaw (xl x) w hL t ht p1 M) ht rfl (by decide) ⟨Nat.le_of_ble_eq_true rfl, Nat.le_of_ble_eq_true rfl⟩ rfl rfl (Nat.le_of_ble_eq_true rfl) (fun r1 => .int r1 :: []) (fun _ => M) (fun _ => ⟨rfl, rfl⟩) rfl (fun r1 _ => ?_)
  refine r_jn0 16 ([]) ([]) (M) (?_) (fun j2 hj3 => ?_)
  · skip
    refine r_iconst (pc' := 17) (v := (-1)) hx (hd 8) (by decide) rfl ?_
    exact r_iret hx (hd 9) rfl rfl hz
  refine r_if_eq (tgt := 16) (pc' := 8) hx (hd 3) (by decide) (fun _ => ?_) rfl (fun _ => ?_)
  · skip
    refine r_sub [] rfl ?_
    exact hj3
  · skip
    refine r_aload_n (pc' := 9) hx (hd 4) rfl 0 rfl rfl ?_
    refine r_iload_n (pc' := 10) hx (hd 5) rfl 2 rfl rfl ?_
    refine r_callV (pc' := 13) (As := [.int p2]) (rest := []) hx (hd 6) md_X11_canCount mi_X11_canCount ms_X11_canCount ml_11_301 (cX11_canCount (xl x) w hL t ht p2 M) ht rfl (by decide) ⟨Nat.le_of_ble_eq_true rfl, Nat.le_of_ble_eq_true rfl⟩ rfl rfl (Nat.le_of_ble_eq_true rfl) (fun r4 => .int r4 :: []) (fun _ => M) (fun _ => ⟨rfl, rfl⟩) rfl (fun r4 _ => ?_)
    refine r_if_ne (tgt := 18) (pc' := 16) hx (hd 7) (by decide) (fun _ => ?_) rfl (fun _ => ?_)
    · skip
      refine r_aload_n (pc' := 19) hx (hd 10) rfl 0 rfl rfl ?_
      refine r_get (pc' := 22) (v := .ref (t + 191)) hx (hd 11) fl_11_61 ht rfl (by decide) rfl ?_
      have h5 := hL.1 _ _ _ ht 9 191 10 0 rfl
      refine r_aload_n (pc' := 23) hx (hd 12) rfl 0 rfl rfl ?_
      refine r_get (pc' := 26) (v := .ref (t + 1)) hx (hd 13) fl_11_12 ht rfl (by decide) rfl ?_
      have h6 := hL.1 _ _ _ ht 0 1 6 0 rfl
      refine r_iload_n (pc' := 27) hx (hd 14) rfl 1 rfl rfl ?_
      refine r_aload_n (pc' := 28) hx (hd 15) rfl 0 rfl rfl ?_
      refine r_get (pc' := 31) (v := .ref (t + 1)) hx (hd 16) fl_11_12 ht rfl (by decide) rfl ?_
      have h7 := hL.1 _ _ _ ht 0 1 6 0 rfl
      refine r_get (pc' := 34) (v := .ref ((t + 1) + 1)) hx (hd 17) fl_11_113 h7 rfl (by decide) rfl ?_
      have h8 := hL.1 _ _ _ h7 0 1 8 0 rfl
      refine r_callVU (pc' := 37) (As := [.ref (t + 1), .int p1, .ref ((t + 1) + 1)]) (rest := []) hx (hd 18) md_X10_fit mi_X10_fit ms_X10_fit ml_11_116 (cX10_fit (xl x) w hL (t + 191) h5 (t + 1) h6 p1 ((t + 1) + 1) h8 M) h5 rfl (by decide) ⟨Nat.le_of_ble_eq_true rfl, Nat.le_of_ble_eq_true rfl⟩ rfl rfl (Nat.le_of_ble_eq_true rfl) rfl (fun M9 => ?_)
      refine r_aload_n (pc' := 38) hx (hd 19) rfl 0 rfl rfl ?_
      refine r_get (pc' := 41) (v := .ref (t + 203)) hx (hd 20) fl_11_67 ht rfl (by decide) rfl ?_
      have h10 := hL.1 _ _ _ ht 10 203 2 0 rfl
      refine r_aload_n (pc' := 42) hx (hd 21) rfl 0 rfl rfl ?_
      refine r_get (pc' := 45) (v := .ref (t + 1)) hx (hd 22) fl_11_12 ht rfl (by decide) rfl ?_
      have h11 := hL.1 _ _ _ ht 0 1 6 0 rfl
      refine r_get (pc' := 48) (v := .long (mJ M9 (t + 1) 5)) hx (hd 23) fl_11_138 h11 rfl (by decide) rfl ?_
      refine r_iconst (pc' := 49) (v := 0) hx (hd 24) (by decide) rfl ?_
      refine r_aload_n (pc' := 50) hx (hd 25) rfl 0 rfl rfl ?_
      refine r_get (pc' := 53) (v := .ref (t + 191)) hx (hd 26) fl_11_61 ht rfl (by decide) rfl ?_
      have h12 := hL.1 _ _ _ ht 9 191 10 0 rfl
      refine r_callVU (pc' := 56) (As := [.long (mJ M9 (t + 1) 5), .int 0, .ref (t + 191)]) (rest := []) hx (hd 27) md_X2_take mi_X2_take ms_X2_take ml_11_304 (cX2_take (xl x) w hL (t + 203) h10 (mJ M9 (t + 1) 5) 0 (t + 191) h12 M9) h10 rfl (by decide) ⟨Nat.le_of_ble_eq_true rfl, Nat.le_of_ble_eq_true rfl⟩ rfl rfl (Nat.le_of_ble_eq_true rfl) rfl (fun M13 => ?_)
      refine r_aload_n (pc' := 57) hx (hd 28) rfl 0 rfl rfl ?_
      refine r_get (pc' := 60) (v := .ref (t + 203)) hx (hd 29) fl_11_67 ht rfl (by decide) rfl ?_
      have h14 := hL.1 _ _ _ ht 10 203 2 0 rfl
      refine r_iload_n (pc' := 61) hx (hd 30) rfl 2 rfl rfl ?_
      refine r_iconst (pc' := 62) (v := 0) hx (hd 31) (by decide) rfl ?_
      refine r_callV (pc' := 65) (As := [.int p2, .int 0]) (rest := []) hx (hd 32) md_X2_part mi_X2_part ms_X2_part ml_11_308 (cX2_part (xl x) w hL (t + 203) h14 p2 0 M13) h14 rfl (by decide) ⟨Nat.le_of_ble_eq_true rfl, Nat.le_of_ble_eq_true rfl⟩ rfl rfl (Nat.le_of_ble_eq_true rfl) (fun r15 => .int r15 :: []) (fun _ => M13) (fun _ => ⟨rfl, rfl⟩) rfl (fun r15 _ => ?_)
      exact r_iret hx (hd 33) rfl rfl hz
    · skip
      refine r_sub [] rfl ?_
      exact hj3
abbrev yX11_highest : MethodName := ({ cls := "CribbageRoom", name := "highest", desc := "(J)I" } : Jvm.MethodName)
def tbX11_highest : List (Nat × Instr × Nat) := [(0, .lload_n 0, 1), (1, .lload_n 0, 1), (2, .invokestatic 148, 3), (5, .iconst 1, 1), (6, .isub, 1), (7, .invokestatic 159, 3), (10, .ireturn, 1)]
theorem dX11_highest : ∀ q ∈ tbX11_highest, decode prog_1_method_59_code q.1 = .ok q.2 := by decide +kernel
set_option maxRecDepth 20000 in
theorem cX11_highest (l : Launch) (w : WX) (hL : Lay w) (p0 : Int64) (M : Mem) : Ct l w yX11_highest prog_1_method_59_code 2 (Option.some FieldType.int) 3 67 evI (emC M) [.long p0] M (FX11_highest p0) := by
  refine ct_of (by decide) (Nat.le_of_ble_eq_true rfl) (fun x hl hx hb hz => ?_)
  subst hl
  have hd : ∀ i, DAt (xc x).code (tbX11_highest[i]?) := fun i => by rw [hb]; exact dat_of dX11_highest i
  show C x w (Qn x w evI (emC M)) 2 0 [(0, .long p0)] [] M (FX11_highest p0)
  unfold FX11_highest
  refine r_lload_n (pc' := 1) hx (hd 0) rfl 0 rfl rfl ?_
  refine r_lload_n (pc' := 2) hx (hd 1) rfl 0 rfl rfl ?_
  refine r_callS (pc' := 5) (As := [.long p0]) (rest := [.long p0]) hx (hd 2) md_J_Long_bitCount mst_J_Long_bitCount ml_11_148 (cJ_Long_bitCount (xl x) w hL p0 M) ⟨Nat.le_of_ble_eq_true rfl, Nat.le_of_ble_eq_true rfl⟩ rfl rfl (Nat.le_of_ble_eq_true rfl) (fun r1 => .int r1 :: [.long p0]) (fun _ => M) (fun _ => ⟨rfl, rfl⟩) rfl (fun r1 _ => ?_)
  refine r_iconst (pc' := 6) (v := 1) hx (hd 3) (by decide) rfl ?_
  refine r_isub (pc' := 7) hx (hd 4) rfl ?_
  refine r_callS (pc' := 10) (As := [.long p0, .int (r1 - 1)]) (rest := []) hx (hd 5) md_X11_cardAt mst_X11_cardAt ml_11_159 (cX11_cardAt (xl x) w hL p0 (r1 - 1) M) ⟨Nat.le_of_ble_eq_true rfl, Nat.le_of_ble_eq_true rfl⟩ rfl rfl (Nat.le_of_ble_eq_true rfl) (fun r2 => .int r2 :: []) (fun _ => M) (fun _ => ⟨rfl, rfl⟩) rfl (fun r2 _ => ?_)
  exact r_iret hx (hd 6) rfl rfl hz
abbrev yX11_playRubber : MethodName := ({ cls := "CribbageRoom", name := "playRubber", desc := "()V" } : Jvm.MethodName)
def tbX11_playRubber : List (Nat × Instr × Nat) := [(0, .iconst 1, 1), (1, .aload_n 0, 1), (2, .getfield 37, 3), (5, .getfield 166, 3), (8, .isub, 1), (9, .istore_n 1, 1), (10, .iconst 0, 1), (11, .istore_n 2, 1), (12, .iload_n 2, 1), (13, .iconst 4, 1), (14, .if_icmp .ge 49, 3), (17, .iload_n 2, 1), (18, .iconst 2, 1), (19, .if_icmp .ge 7, 3), (22, .iload_n 1, 1), (23, .goto 10, 3), (26, .aload_n 0, 1), (27, .getfield 37, 3), (30, .getfield 166, 3), (33, .istore_n 3, 1), (34, .aload_n 0, 1), (35, .getfield 37, 3), (38, .aload_n 0, 1), (39, .getfield 37, 3), (42, .iload_n 3, 1), (43, .invokevirtual 406, 3), (46, .invokestatic 412, 3), (49, .iload_n 3, 1), (50, .aload_n 0, 1), (51, .getfield 57, 3), (54, .invokevirtual 395, 3), (57, .iinc 2 1, 3), (60, .goto (-48), 3), (63, .iconst 0, 1), (64, .istore_n 2, 1), (65, .iload_n 2, 1), (66, .bipush 8, 2), (68, .if_icmp .ge 53, 3), (71, .aload_n 0, 1), (72, .getfield 37, 3), (75, .getfield 181, 3), (78, .iconst (-1), 1), (79, .if_icmp .eq 42, 3), (82, .aload_n 0, 1), (83, .getfield 37, 3), (86, .aload_n 0, 1), (87, .getfield 37, 3), (90, .aload_n 0, 1), (91, .getfield 37, 3), (94, .getfield 181, 3), (97, .aload_n 0, 1), (98, .getfield 57, 3), (101, .invokevirtual 335, 3), (104, .invokestatic 415, 3), (107, .aload_n 0, 1), (108, .getfield 57, 3), (111, .invokevirtual 399, 3), (114, .pop, 1), (115, .iinc 2 1, 3), (118, .goto (-53), 3), (121, .aload_n 0, 1), (122, .aload_n 0, 1), (123, .getfield 37, 3), (126, .invokevirtual 403, 3), (129, .pop, 1), (130, .return_, 1)]
theorem dX11_playRubber : ∀ q ∈ tbX11_playRubber, decode prog_1_method_51_code q.1 = .ok q.2 := by decide +kernel
set_option maxRecDepth 20000 in
theorem cX11_playRubber (l : Launch) (w : WX) (hL : Lay w) (t : Nat) (ht : Wat w t 11 0) (M : Mem) : Ct l w yX11_playRubber prog_1_method_51_code 4 (Option.none : Option FieldType) 5 120 evU emU [.ref t] M (FX11_playRubber t M) := by
  refine ct_of (by decide) (Nat.le_of_ble_eq_true rfl) (fun x hl hx hb hz => ?_)
  subst hl
  have hd : ∀ i, DAt (xc x).code (tbX11_playRubber[i]?) := fun i => by rw [hb]; exact dat_of dX11_playRubber i
  show C x w (Qn x w evU emU) 4 0 [(0, .ref t)] [] M (FX11_playRubber t M)
  unfold FX11_playRubber
  refine r_iconst (pc' := 1) (v := 1) hx (hd 0) (by decide) rfl ?_
  refine r_aload_n (pc' := 2) hx (hd 1) rfl 0 rfl rfl ?_
  refine r_get (pc' := 5) (v := .ref (t + 167)) hx (hd 2) fl_11_37 ht rfl (by decide) rfl ?_
  have h1 := hL.1 _ _ _ ht 5 167 8 0 rfl
  refine r_get (pc' := 8) (v := .int (mI M (t + 167) 6)) hx (hd 3) fl_11_166 h1 rfl (by decide) rfl ?_
  refine r_isub (pc' := 9) hx (hd 4) rfl ?_
  refine r_nmI (fun v2 => ?_)
  refine r_istore_n (pc' := 10) (L' := [(1, .int v2), (0, .ref t)]) hx (hd 5) rfl (by decide) rfl rfl ?_
  refine r_iconst (pc' := 11) (v := 0) hx (hd 6) (by decide) rfl ?_
  refine r_istore_n (pc' := 12) (L' := [(2, .int 0), (1, .int v2), (0, .ref t)]) hx (hd 7) rfl (by decide) rfl rfl ?_
  refine r_sub [2, 1, 0] rfl ?_
  refine r_wl2 (fun v3 M4 => [(0, .ref t), (1, .int v2), (2, .int v3)]) (fun v3 M4 => []) (fun v3 M4 => M4) (fun v3 M4 rec5 ih6 => ?_) fuel 0 M
  refine r_iload_n (pc' := 13) hx (hd 8) rfl 2 rfl rfl ?_
  refine r_iconst (pc' := 14) (v := 4) hx (hd 9) (by decide) rfl ?_
  refine r_icmp_ge (tgt := 63) (pc' := 17) hx (hd 10) (by decide) (fun _ => ?_) rfl (fun _ => ?_)
  · skip
    refine r_iconst (pc' := 64) (v := 0) hx (hd 33) (by decide) rfl ?_
    refine r_istore_n (pc' := 65) (L' := [(2, .int 0), (0, .ref t), (1, .int v2)]) hx (hd 34) rfl (by decide) rfl rfl ?_
    refine r_sub [1, 0] rfl ?_
    refine r_wl2 (fun v7 M8 => [(0, .ref t), (2, .int v7)]) (fun v7 M8 => []) (fun v7 M8 => M8) (fun v7 M8 rec9 ih10 => ?_) fuel 0 M4
    refine r_iload_n (pc' := 66) hx (hd 35) rfl 1 rfl rfl ?_
    refine r_bipush (pc' := 68) (v := 8) hx (hd 36) (by decide) rfl ?_
    refine r_jn0 121 ([(0, .ref t)]) ([]) (M8) (?_) (fun j11 hj12 => ?_)
    · skip
      refine r_aload_n (pc' := 122) hx (hd 60) rfl 0 rfl rfl ?_
      refine r_aload_n (pc' := 123) hx (hd 61) rfl 0 rfl rfl ?_
      refine r_get (pc' := 126) (v := .ref (t + 167)) hx (hd 62) fl_11_37 ht rfl (by decide) rfl ?_
      have h13 := hL.1 _ _ _ ht 5 167 8 0 rfl
      refine r_callVI (pc' := 129) (As := [.ref (t + 167)]) (rest := []) hx (hd 63) md_X11_showAll mi_X11_showAll ms_X11_showAll ml_11_403 (cX11_showAll (xl x) w hL t ht (t + 167) h13 M8) ht rfl (by decide) ⟨Nat.le_of_ble_eq_true rfl, Nat.le_of_ble_eq_true rfl⟩ rfl rfl (Nat.le_of_ble_eq_true rfl) (fun r15 => .int r15 :: []) (fun _ => rfl) rfl (fun r15 M14 => ?_)
      refine r_pop (pc' := 130) hx (hd 64) rfl rfl ?_
      exact r_vret hx (hd 65) rfl rfl hz
    refine r_icmp_ge (tgt := 121) (pc' := 71) hx (hd 37) (by decide) (fun _ => ?_) rfl (fun _ => ?_)
    · skip
      refine r_sub [0] rfl ?_
      exact hj12
    · skip
      refine r_aload_n (pc' := 72) hx (hd 38) rfl 0 rfl rfl ?_
      refine r_get (pc' := 75) (v := .ref (t + 167)) hx (hd 39) fl_11_37 ht rfl (by decide) rfl ?_
      have h16 := hL.1 _ _ _ ht 5 167 8 0 rfl
      refine r_get (pc' := 78) (v := .int (mI M8 (t + 167) 10)) hx (hd 40) fl_11_181 h16 rfl (by decide) rfl ?_
      refine r_iconst (pc' := 79) (v := (-1)) hx (hd 41) (by decide) rfl ?_
      refine r_icmp_eq (tgt := 121) (pc' := 82) hx (hd 42) (by decide) (fun _ => ?_) rfl (fun _ => ?_)
      · skip
        refine r_sub [0] rfl ?_
        exact hj12
      · skip
        refine r_aload_n (pc' := 83) hx (hd 43) rfl 0 rfl rfl ?_
        refine r_get (pc' := 86) (v := .ref (t + 167)) hx (hd 44) fl_11_37 ht rfl (by decide) rfl ?_
        have h17 := hL.1 _ _ _ ht 5 167 8 0 rfl
        refine r_aload_n (pc' := 87) hx (hd 45) rfl 0 rfl rfl ?_
        refine r_get (pc' := 90) (v := .ref (t + 167)) hx (hd 46) fl_11_37 ht rfl (by decide) rfl ?_
        have h18 := hL.1 _ _ _ ht 5 167 8 0 rfl
        refine r_aload_n (pc' := 91) hx (hd 47) rfl 0 rfl rfl ?_
        refine r_get (pc' := 94) (v := .ref (t + 167)) hx (hd 48) fl_11_37 ht rfl (by decide) rfl ?_
        have h19 := hL.1 _ _ _ ht 5 167 8 0 rfl
        refine r_get (pc' := 97) (v := .int (mI M8 (t + 167) 10)) hx (hd 49) fl_11_181 h19 rfl (by decide) rfl ?_
        refine r_aload_n (pc' := 98) hx (hd 50) rfl 0 rfl rfl ?_
        refine r_get (pc' := 101) (v := .ref (t + 179)) hx (hd 51) fl_11_57 ht rfl (by decide) rfl ?_
        have h20 := hL.1 _ _ _ ht 8 179 10 0 rfl
        refine r_callV (pc' := 104) (As := [.int (mI M8 (t + 167) 10), .ref (t + 179)]) (rest := [.ref (t + 167)]) hx (hd 52) md_X8_playable mi_X8_playable ms_X8_playable ml_11_335 (cX8_playable (xl x) w hL (t + 167) h18 (mI M8 (t + 167) 10) (t + 179) h20 M8) h18 rfl (by decide) ⟨Nat.le_of_ble_eq_true rfl, Nat.le_of_ble_eq_true rfl⟩ rfl rfl (Nat.le_of_ble_eq_true rfl) (fun r21 => .long r21 :: [.ref (t + 167)]) (fun _ => M8) (fun _ => ⟨rfl, rfl⟩) rfl (fun r21 _ => ?_)
        refine r_callS (pc' := 107) (As := [.long r21]) (rest := [.ref (t + 167)]) hx (hd 53) md_X11_lowest mst_X11_lowest ml_11_415 (cX11_lowest (xl x) w hL r21 M8) ⟨Nat.le_of_ble_eq_true rfl, Nat.le_of_ble_eq_true rfl⟩ rfl rfl (Nat.le_of_ble_eq_true rfl) (fun r22 => .int r22 :: [.ref (t + 167)]) (fun _ => M8) (fun _ => ⟨rfl, rfl⟩) rfl (fun r22 _ => ?_)
        refine r_aload_n (pc' := 108) hx (hd 54) rfl 0 rfl rfl ?_
        refine r_get (pc' := 111) (v := .ref (t + 179)) hx (hd 55) fl_11_57 ht rfl (by decide) rfl ?_
        have h23 := hL.1 _ _ _ ht 8 179 10 0 rfl
        refine r_callVI (pc' := 114) (As := [.int r22, .ref (t + 179)]) (rest := []) hx (hd 56) md_X8_putDown mi_X8_putDown ms_X8_putDown ml_11_399 (cX8_putDown (xl x) w hL (t + 167) h17 r22 (t + 179) h23 M8) h17 rfl (by decide) ⟨Nat.le_of_ble_eq_true rfl, Nat.le_of_ble_eq_true rfl⟩ rfl rfl (Nat.le_of_ble_eq_true rfl) (fun r25 => .int r25 :: []) (fun _ => rfl) rfl (fun r25 M24 => ?_)
        refine r_pop (pc' := 115) hx (hd 57) rfl rfl ?_
        refine r_iinc (pc' := 118) (v := 1) hx (hd 58) 1 rfl (by decide) (by decide) (fun v26 => [(2, .int v26), (0, .ref t)]) (fun _ => rfl) rfl (fun v26 => ?_)
        refine r_goto (tgt := 65) hx (hd 59) (by decide) ?_
        refine r_sub [1, 0] rfl ?_
        exact ih10 v26 M24
  · skip
    refine r_iload_n (pc' := 18) hx (hd 11) rfl 2 rfl rfl ?_
    refine r_iconst (pc' := 19) (v := 2) hx (hd 12) (by decide) rfl ?_
    refine r_jn1 33 (fun v27 => [(0, .ref t), (1, .int v2), (2, .int v3)]) (fun v27 => [.int v27]) (fun v27 => M4) (fun v27 => ?_) (fun j28 hj29 => ?_)
    · skip
      refine r_istore_n (pc' := 34) (L' := [(3, .int v27), (0, .ref t), (1, .int v2), (2, .int v3)]) hx (hd 19) rfl (by decide) rfl rfl ?_
      refine r_aload_n (pc' := 35) hx (hd 20) rfl 1 rfl rfl ?_
      refine r_get (pc' := 38) (v := .ref (t + 167)) hx (hd 21) fl_11_37 ht rfl (by decide) rfl ?_
      have h30 := hL.1 _ _ _ ht 5 167 8 0 rfl
      refine r_aload_n (pc' := 39) hx (hd 22) rfl 1 rfl rfl ?_
      refine r_get (pc' := 42) (v := .ref (t + 167)) hx (hd 23) fl_11_37 ht rfl (by decide) rfl ?_
      have h31 := hL.1 _ _ _ ht 5 167 8 0 rfl
      refine r_iload_n (pc' := 43) hx (hd 24) rfl 0 rfl rfl ?_
      refine r_callV (pc' := 46) (As := [.int v27]) (rest := [.ref (t + 167)]) hx (hd 25) md_X8_handOf mi_X8_handOf ms_X8_handOf ml_11_406 (cX8_handOf (xl x) w hL (t + 167) h31 v27 M4) h31 rfl (by decide) ⟨Nat.le_of_ble_eq_true rfl, Nat.le_of_ble_eq_true rfl⟩ rfl rfl (Nat.le_of_ble_eq_true rfl) (fun r32 => .long r32 :: [.ref (t + 167)]) (fun _ => M4) (fun _ => ⟨rfl, rfl⟩) rfl (fun r32 _ => ?_)
      refine r_callS (pc' := 49) (As := [.long r32]) (rest := [.ref (t + 167)]) hx (hd 26) md_X11_highest mst_X11_highest ml_11_412 (cX11_highest (xl x) w hL r32 M4) ⟨Nat.le_of_ble_eq_true rfl, Nat.le_of_ble_eq_true rfl⟩ rfl rfl (Nat.le_of_ble_eq_true rfl) (fun r33 => .int r33 :: [.ref (t + 167)]) (fun _ => M4) (fun _ => ⟨rfl, rfl⟩) rfl (fun r33 _ => ?_)
      refine r_iload_n (pc' := 50) hx (hd 27) rfl 0 rfl rfl ?_
      refine r_aload_n (pc' := 51) hx (hd 28) rfl 1 rfl rfl ?_
      refine r_get (pc' := 54) (v := .ref (t + 179)) hx (hd 29) fl_11_57 ht rfl (by decide) rfl ?_
      have h34 := hL.1 _ _ _ ht 8 179 10 0 rfl
      refine r_callVU (pc' := 57) (As := [.int r33, .int v27, .ref (t + 179)]) (rest := []) hx (hd 30) md_X8_layAway mi_X8_layAway ms_X8_layAway ml_11_395 (cX8_layAway (xl x) w hL (t + 167) h30 r33 v27 (t + 179) h34 M4) h30 rfl (by decide) ⟨Nat.le_of_ble_eq_true rfl, Nat.le_of_ble_eq_true rfl⟩ rfl rfl (Nat.le_of_ble_eq_true rfl) rfl (fun M35 => ?_)
      refine r_iinc (pc' := 60) (v := 1) hx (hd 31) 3 rfl (by decide) (by decide) (fun v36 => [(2, .int v36), (3, .int v27), (0, .ref t), (1, .int v2)]) (fun _ => rfl) rfl (fun v36 => ?_)
      refine r_goto (tgt := 12) hx (hd 32) (by decide) ?_
      refine r_sub [2, 3, 0] rfl ?_
      exact ih6 v36 M35
    refine r_icmp_ge (tgt := 26) (pc' := 22) hx (hd 13) (by decide) (fun _ => ?_) rfl (fun _ => ?_)
    · skip
      refine r_aload_n (pc' := 27) hx (hd 16) rfl 0 rfl rfl ?_
      refine r_get (pc' := 30) (v := .ref (t + 167)) hx (hd 17) fl_11_37 ht rfl (by decide) rfl ?_
      have h37 := hL.1 _ _ _ ht 5 167 8 0 rfl
      refine r_get (pc' := 33) (v := .int (mI M4 (t + 167) 6)) hx (hd 18) fl_11_166 h37 rfl (by decide) rfl ?_
      exact hj29 (mI M4 (t + 167) 6)
    · skip
      refine r_iload_n (pc' := 23) hx (hd 14) rfl 1 rfl rfl ?_
      refine r_goto (tgt := 33) hx (hd 15) (by decide) ?_
      exact hj29 v2
abbrev yX11_rubbers : MethodName := ({ cls := "CribbageRoom", name := "rubbers", desc := "(II)I" } : Jvm.MethodName)
def tbX11_rubbers : List (Nat × Instr × Nat) := [(0, .iload_n 1, 1), (1, .ifCond .lt 21, 3), (4, .iload_n 1, 1), (5, .ldc_w 366, 3), (8, .if_icmp .gt 14, 3), (11, .iload_n 2, 1), (12, .iconst 1, 1), (13, .if_icmp .lt 9, 3), (16, .iload_n 2, 1), (17, .bipush 20, 2), (19, .if_icmp .le 9, 3), (22, .aload_n 0, 1), (23, .iconst (-1), 1), (24, .invokevirtual 211, 3), (27, .ireturn, 1), (28, .aload_n 0, 1), (29, .getfield 37, 3), (32, .aload_n 0, 1), (33, .getfield 12, 3), (36, .getfield 113, 3), (39, .invokevirtual 255, 3), (42, .aload_n 0, 1), (43, .getfield 37, 3), (46, .getfield 154, 3), (49, .iconst 0, 1), (50, .iaload, 1), (51, .aload_n 0, 1), (52, .getfield 37, 3), (55, .getfield 154, 3), (58, .iconst 1, 1), (59, .iaload, 1), (60, .iadd, 1), (61, .istore_n 3, 1), (62, .iload_n 1, 1), (63, .istore 4, 2), (65, .iconst 0, 1), (66, .istore 5, 2), (68, .iload 5, 2), (70, .iload_n 2, 1), (71, .if_icmp .ge 59, 3), (74, .aload_n 0, 1), (75, .getfield 37, 3), (78, .getfield 367, 3), (81, .sipush 999, 3), (84, .if_icmp .ge 46, 3), (87, .aload_n 0, 1), (88, .getfield 37, 3), (91, .iload 4, 2), (93, .invokevirtual 370, 3), (96, .istore 4, 2), (98, .aload_n 0, 1), (99, .getfield 57, 3), (102, .aload_n 0, 1), (103, .getfield 12, 3), (106, .aload_n 0, 1), (107, .getfield 12, 3), (110, .getfield 110, 3), (113, .aload_n 0, 1), (114, .getfield 37, 3), (117, .invokevirtual 116, 3), (120, .aload_n 0, 1), (121, .invokevirtual 373, 3), (124, .iinc 5 1, 3), (127, .goto (-59), 3), (130, .aload_n 0, 1), (131, .getfield 99, 3), (134, .iconst 0, 1), (135, .aload_n 0, 1), (136, .getfield 37, 3), (139, .getfield 154, 3), (142, .iconst 0, 1), (143, .iaload, 1), (144, .iastore, 1), (145, .aload_n 0, 1), (146, .getfield 99, 3), (149, .iconst 1, 1), (150, .aload_n 0, 1), (151, .getfield 37, 3), (154, .getfield 154, 3), (157, .iconst 1, 1), (158, .iaload, 1), (159, .iastore, 1), (160, .aload_n 0, 1), (161, .aload_n 0, 1), (162, .getfield 37, 3), (165, .getfield 154, 3), (168, .iconst 0, 1), (169, .iaload, 1), (170, .aload_n 0, 1), (171, .getfield 37, 3), (174, .getfield 154, 3), (177, .iconst 1, 1), (178, .iaload, 1), (179, .iadd, 1), (180, .iload_n 3, 1), (181, .isub, 1), (182, .invokevirtual 221, 3), (185, .ireturn, 1)]
theorem dX11_rubbers : ∀ q ∈ tbX11_rubbers, decode prog_1_method_35_code q.1 = .ok q.2 := by decide +kernel
set_option maxRecDepth 20000 in
theorem cX11_rubbers (l : Launch) (w : WX) (hL : Lay w) (t : Nat) (ht : Wat w t 11 0) (p1 : Int32) (p2 : Int32) (M : Mem) : Ct l w yX11_rubbers prog_1_method_35_code 6 (Option.some FieldType.int) 6 156 evIM emM [.ref t, .int p1, .int p2] M (FX11_rubbers t p1 p2 M) := by
  refine ct_of (by decide) (Nat.le_of_ble_eq_true rfl) (fun x hl hx hb hz => ?_)
  subst hl
  have hd : ∀ i, DAt (xc x).code (tbX11_rubbers[i]?) := fun i => by rw [hb]; exact dat_of dX11_rubbers i
  show C x w (Qn x w evIM emM) 6 0 [(0, .ref t), (1, .int p1), (2, .int p2)] [] M (FX11_rubbers t p1 p2 M)
  unfold FX11_rubbers
  refine r_iload_n (pc' := 1) hx (hd 0) rfl 1 rfl rfl ?_
  refine r_jn0 22 ([(0, .ref t)]) ([]) (M) (?_) (fun j1 hj2 => ?_)
  · skip
    refine r_aload_n (pc' := 23) hx (hd 11) rfl 0 rfl rfl ?_
    refine r_iconst (pc' := 24) (v := (-1)) hx (hd 12) (by decide) rfl ?_
    refine r_callVI (pc' := 27) (As := [.int (-1)]) (rest := []) hx (hd 13) md_X11_refuse mi_X11_refuse ms_X11_refuse ml_11_211 (cX11_refuse (xl x) w hL t ht (-1) M) ht rfl (by decide) ⟨Nat.le_of_ble_eq_true rfl, Nat.le_of_ble_eq_true rfl⟩ rfl rfl (Nat.le_of_ble_eq_true rfl) (fun r4 => .int r4 :: []) (fun _ => rfl) rfl (fun r4 M3 => ?_)
    exact r_iret hx (hd 14) rfl rfl hz
  refine r_if_lt (tgt := 22) (pc' := 4) hx (hd 1) (by decide) (fun _ => ?_) rfl (fun _ => ?_)
  · skip
    refine r_sub [0] rfl ?_
    exact hj2
  · skip
    refine r_iload_n (pc' := 5) hx (hd 2) rfl 1 rfl rfl ?_
    refine r_ldcw (pc' := 8) hx (hd 3) kc_11_366 rfl ?_
    refine r_icmp_gt (tgt := 22) (pc' := 11) hx (hd 4) (by decide) (fun _ => ?_) rfl (fun _ => ?_)
    · skip
      refine r_sub [0] rfl ?_
      exact hj2
    · skip
      refine r_iload_n (pc' := 12) hx (hd 5) rfl 2 rfl rfl ?_
      refine r_iconst (pc' := 13) (v := 1) hx (hd 6) (by decide) rfl ?_
      refine r_icmp_lt (tgt := 22) (pc' := 16) hx (hd 7) (by decide) (fun _ => ?_) rfl (fun _ => ?_)
      · skip
        refine r_sub [0] rfl ?_
        exact hj2
      · skip
        refine r_iload_n (pc' := 17) hx (hd 8) rfl 2 rfl rfl ?_
        refine r_bipush (pc' := 19) (v := 20) hx (hd 9) (by decide) rfl ?_
        refine r_icmp_le (tgt := 28) (pc' := 22) hx (hd 10) (by decide) (fun _ => ?_) rfl (fun _ => ?_)
        · skip
          refine r_aload_n (pc' := 29) hx (hd 15) rfl 0 rfl rfl ?_
          refine r_get (pc' := 32) (v := .ref (t + 167)) hx (hd 16) fl_11_37 ht rfl (by decide) rfl ?_
          have h5 := hL.1 _ _ _ ht 5 167 8 0 rfl
          refine r_aload_n (pc' := 33) hx (hd 17) rfl 0 rfl rfl ?_
          refine r_get (pc' := 36) (v := .ref (t + 1)) hx (hd 18) fl_11_12 ht rfl (by decide) rfl ?_
          have h6 := hL.1 _ _ _ ht 0 1 6 0 rfl
          refine r_get (pc' := 39) (v := .ref ((t + 1) + 1)) hx (hd 19) fl_11_113 h6 rfl (by decide) rfl ?_
          have h7 := hL.1 _ _ _ h6 0 1 8 0 rfl
          refine r_callVU (pc' := 42) (As := [.ref ((t + 1) + 1)]) (rest := []) hx (hd 20) md_X8_copyFrom mi_X8_copyFrom ms_X8_copyFrom ml_11_255 (cX8_copyFrom (xl x) w hL (t + 167) h5 ((t + 1) + 1) h7 M) h5 rfl (by decide) ⟨Nat.le_of_ble_eq_true rfl, Nat.le_of_ble_eq_true rfl⟩ rfl rfl (Nat.le_of_ble_eq_true rfl) rfl (fun M8 => ?_)
          refine r_aload_n (pc' := 43) hx (hd 21) rfl 0 rfl rfl ?_
          refine r_get (pc' := 46) (v := .ref (t + 167)) hx (hd 22) fl_11_37 ht rfl (by decide) rfl ?_
          have h9 := hL.1 _ _ _ ht 5 167 8 0 rfl
          refine r_get (pc' := 49) (v := .ref ((t + 167) + 2)) hx (hd 23) fl_11_154 h9 rfl (by decide) rfl ?_
          have h10 := hL.1 _ _ _ h9 1 2 20 2 rfl
          refine r_iconst (pc' := 50) (v := 0) hx (hd 24) (by decide) rfl ?_
          refine r_iald (pc' := 51) (k := 0) hx (hd 25) h10 (by decide) (by decide) rfl ?_
          refine r_aload_n (pc' := 52) hx (hd 26) rfl 0 rfl rfl ?_
          refine r_get (pc' := 55) (v := .ref (t + 167)) hx (hd 27) fl_11_37 ht rfl (by decide) rfl ?_
          have h11 := hL.1 _ _ _ ht 5 167 8 0 rfl
          refine r_get (pc' := 58) (v := .ref ((t + 167) + 2)) hx (hd 28) fl_11_154 h11 rfl (by decide) rfl ?_
          have h12 := hL.1 _ _ _ h11 1 2 20 2 rfl
          refine r_iconst (pc' := 59) (v := 1) hx (hd 29) (by decide) rfl ?_
          refine r_iald (pc' := 60) (k := 1) hx (hd 30) h12 (by decide) (by decide) rfl ?_
          refine r_iadd (pc' := 61) hx (hd 31) rfl ?_
          refine r_nmI (fun v13 => ?_)
          refine r_istore_n (pc' := 62) (L' := [(3, .int v13), (0, .ref t), (1, .int p1), (2, .int p2)]) hx (hd 32) rfl (by decide) rfl rfl ?_
          refine r_iload_n (pc' := 63) hx (hd 33) rfl 2 rfl rfl ?_
          refine r_istore (pc' := 65) (L' := [(4, .int p1), (3, .int v13), (0, .ref t), (1, .int p1), (2, .int p2)]) hx (hd 34) (by decide) rfl rfl ?_
          refine r_iconst (pc' := 66) (v := 0) hx (hd 35) (by decide) rfl ?_
          refine r_istore (pc' := 68) (L' := [(5, .int 0), (4, .int p1), (3, .int v13), (0, .ref t), (1, .int p1), (2, .int p2)]) hx (hd 36) (by decide) rfl rfl ?_
          refine r_sub [3, 5, 2, 1, 0] rfl ?_
          refine r_wl3 (fun v14 v15 M16 => [(0, .ref t), (2, .int p2), (3, .int v13), (4, .int v14), (5, .int v15)]) (fun v14 v15 M16 => []) (fun v14 v15 M16 => M16) (fun v14 v15 M16 rec17 ih18 => ?_) fuel p1 0 M8
          refine r_iload (pc' := 70) hx (hd 37) 4 rfl rfl ?_
          refine r_iload_n (pc' := 71) hx (hd 38) rfl 1 rfl rfl ?_
          refine r_jn0 130 ([(0, .ref t), (3, .int v13)]) ([]) (M16) (?_) (fun j19 hj20 => ?_)
          · skip
            refine r_aload_n (pc' := 131) hx (hd 64) rfl 0 rfl rfl ?_
            refine r_get (pc' := 134) (v := .ref (t + 276)) hx (hd 65) fl_11_99 ht rfl (by decide) rfl ?_
            have h21 := hL.1 _ _ _ ht 15 276 20 2 rfl
            refine r_iconst (pc' := 135) (v := 0) hx (hd 66) (by decide) rfl ?_
            refine r_aload_n (pc' := 136) hx (hd 67) rfl 0 rfl rfl ?_
            refine r_get (pc' := 139) (v := .ref (t + 167)) hx (hd 68) fl_11_37 ht rfl (by decide) rfl ?_
            have h22 := hL.1 _ _ _ ht 5 167 8 0 rfl
            refine r_get (pc' := 142) (v := .ref ((t + 167) + 2)) hx (hd 69) fl_11_154 h22 rfl (by decide) rfl ?_
            have h23 := hL.1 _ _ _ h22 1 2 20 2 rfl
            refine r_iconst (pc' := 143) (v := 0) hx (hd 70) (by decide) rfl ?_
            refine r_iald (pc' := 144) (k := 0) hx (hd 71) h23 (by decide) (by decide) rfl ?_
            refine r_iast (pc' := 145) (k := 0) hx (hd 72) h21 (by decide) (by decide) rfl (fun M24 => ?_)
            refine r_aload_n (pc' := 146) hx (hd 73) rfl 0 rfl rfl ?_
            refine r_get (pc' := 149) (v := .ref (t + 276)) hx (hd 74) fl_11_99 ht rfl (by decide) rfl ?_
            have h25 := hL.1 _ _ _ ht 15 276 20 2 rfl
            refine r_iconst (pc' := 150) (v := 1) hx (hd 75) (by decide) rfl ?_
            refine r_aload_n (pc' := 151) hx (hd 76) rfl 0 rfl rfl ?_
            refine r_get (pc' := 154) (v := .ref (t + 167)) hx (hd 77) fl_11_37 ht rfl (by decide) rfl ?_
            have h26 := hL.1 _ _ _ ht 5 167 8 0 rfl
            refine r_get (pc' := 157) (v := .ref ((t + 167) + 2)) hx (hd 78) fl_11_154 h26 rfl (by decide) rfl ?_
            have h27 := hL.1 _ _ _ h26 1 2 20 2 rfl
            refine r_iconst (pc' := 158) (v := 1) hx (hd 79) (by decide) rfl ?_
            refine r_iald (pc' := 159) (k := 1) hx (hd 80) h27 (by decide) (by decide) rfl ?_
            refine r_iast (pc' := 160) (k := 1) hx (hd 81) h25 (by decide) (by decide) rfl (fun M28 => ?_)
            refine r_aload_n (pc' := 161) hx (hd 82) rfl 0 rfl rfl ?_
            refine r_aload_n (pc' := 162) hx (hd 83) rfl 0 rfl rfl ?_
            refine r_get (pc' := 165) (v := .ref (t + 167)) hx (hd 84) fl_11_37 ht rfl (by decide) rfl ?_
            have h29 := hL.1 _ _ _ ht 5 167 8 0 rfl
            refine r_get (pc' := 168) (v := .ref ((t + 167) + 2)) hx (hd 85) fl_11_154 h29 rfl (by decide) rfl ?_
            have h30 := hL.1 _ _ _ h29 1 2 20 2 rfl
            refine r_iconst (pc' := 169) (v := 0) hx (hd 86) (by decide) rfl ?_
            refine r_iald (pc' := 170) (k := 0) hx (hd 87) h30 (by decide) (by decide) rfl ?_
            refine r_aload_n (pc' := 171) hx (hd 88) rfl 0 rfl rfl ?_
            refine r_get (pc' := 174) (v := .ref (t + 167)) hx (hd 89) fl_11_37 ht rfl (by decide) rfl ?_
            have h31 := hL.1 _ _ _ ht 5 167 8 0 rfl
            refine r_get (pc' := 177) (v := .ref ((t + 167) + 2)) hx (hd 90) fl_11_154 h31 rfl (by decide) rfl ?_
            have h32 := hL.1 _ _ _ h31 1 2 20 2 rfl
            refine r_iconst (pc' := 178) (v := 1) hx (hd 91) (by decide) rfl ?_
            refine r_iald (pc' := 179) (k := 1) hx (hd 92) h32 (by decide) (by decide) rfl ?_
            refine r_iadd (pc' := 180) hx (hd 93) rfl ?_
            refine r_iload_n (pc' := 181) hx (hd 94) rfl 1 rfl rfl ?_
            refine r_isub (pc' := 182) hx (hd 95) rfl ?_
            refine r_callVI (pc' := 185) (As := [.int (((mI M28 ((t + 167) + 2) 0) + (mI M28 ((t + 167) + 2) 1)) - v13)]) (rest := []) hx (hd 96) md_X11_grant mi_X11_grant ms_X11_grant ml_11_221 (cX11_grant (xl x) w hL t ht (((mI M28 ((t + 167) + 2) 0) + (mI M28 ((t + 167) + 2) 1)) - v13) M28) ht rfl (by decide) ⟨Nat.le_of_ble_eq_true rfl, Nat.le_of_ble_eq_true rfl⟩ rfl rfl (Nat.le_of_ble_eq_true rfl) (fun r34 => .int r34 :: []) (fun _ => rfl) rfl (fun r34 M33 => ?_)
            exact r_iret hx (hd 97) rfl rfl hz
          refine r_icmp_ge (tgt := 130) (pc' := 74) hx (hd 39) (by decide) (fun _ => ?_) rfl (fun _ => ?_)
          · skip
            refine r_sub [0, 2] rfl ?_
            exact hj20
          · skip
            refine r_aload_n (pc' := 75) hx (hd 40) rfl 0 rfl rfl ?_
            refine r_get (pc' := 78) (v := .ref (t + 167)) hx (hd 41) fl_11_37 ht rfl (by decide) rfl ?_
            have h35 := hL.1 _ _ _ ht 5 167 8 0 rfl
            refine r_get (pc' := 81) (v := .int (mI M16 (t + 167) 12)) hx (hd 42) fl_11_367 h35 rfl (by decide) rfl ?_
            refine r_sipush (pc' := 84) (v := 999) hx (hd 43) (by decide) rfl ?_
            refine r_icmp_ge (tgt := 130) (pc' := 87) hx (hd 44) (by decide) (fun _ => ?_) rfl (fun _ => ?_)
            · skip
              refine r_sub [0, 2] rfl ?_
              exact hj20
            · skip
              refine r_aload_n (pc' := 88) hx (hd 45) rfl 0 rfl rfl ?_
              refine r_get (pc' := 91) (v := .ref (t + 167)) hx (hd 46) fl_11_37 ht rfl (by decide) rfl ?_
              have h36 := hL.1 _ _ _ ht 5 167 8 0 rfl
              refine r_iload (pc' := 93) hx (hd 47) 3 rfl rfl ?_
              refine r_callVI (pc' := 96) (As := [.int v14]) (rest := []) hx (hd 48) md_X8_dealOut mi_X8_dealOut ms_X8_dealOut ml_11_370 (cX8_dealOut (xl x) w hL (t + 167) h36 v14 M16) h36 rfl (by decide) ⟨Nat.le_of_ble_eq_true rfl, Nat.le_of_ble_eq_true rfl⟩ rfl rfl (Nat.le_of_ble_eq_true rfl) (fun r38 => .int r38 :: []) (fun _ => rfl) rfl (fun r38 M37 => ?_)
              refine r_istore (pc' := 98) (L' := [(4, .int r38), (0, .ref t), (2, .int p2), (3, .int v13), (5, .int v15)]) hx (hd 49) (by decide) rfl rfl ?_
              refine r_aload_n (pc' := 99) hx (hd 50) rfl 1 rfl rfl ?_
              refine r_get (pc' := 102) (v := .ref (t + 179)) hx (hd 51) fl_11_57 ht rfl (by decide) rfl ?_
              have h39 := hL.1 _ _ _ ht 8 179 10 0 rfl
              refine r_aload_n (pc' := 103) hx (hd 52) rfl 1 rfl rfl ?_
              refine r_get (pc' := 106) (v := .ref (t + 1)) hx (hd 53) fl_11_12 ht rfl (by decide) rfl ?_
              have h40 := hL.1 _ _ _ ht 0 1 6 0 rfl
              refine r_aload_n (pc' := 107) hx (hd 54) rfl 1 rfl rfl ?_
              refine r_get (pc' := 110) (v := .ref (t + 1)) hx (hd 55) fl_11_12 ht rfl (by decide) rfl ?_
              have h41 := hL.1 _ _ _ ht 0 1 6 0 rfl
              refine r_get (pc' := 113) (v := .int (mI M37 (t + 1) 8)) hx (hd 56) fl_11_110 h41 rfl (by decide) rfl ?_
              refine r_aload_n (pc' := 114) hx (hd 57) rfl 1 rfl rfl ?_
              refine r_get (pc' := 117) (v := .ref (t + 167)) hx (hd 58) fl_11_37 ht rfl (by decide) rfl ?_
              have h42 := hL.1 _ _ _ ht 5 167 8 0 rfl
              refine r_callVU (pc' := 120) (As := [.ref (t + 1), .int (mI M37 (t + 1) 8), .ref (t + 167)]) (rest := []) hx (hd 59) md_X10_fit mi_X10_fit ms_X10_fit ml_11_116 (cX10_fit (xl x) w hL (t + 179) h39 (t + 1) h40 (mI M37 (t + 1) 8) (t + 167) h42 M37) h39 rfl (by decide) ⟨Nat.le_of_ble_eq_true rfl, Nat.le_of_ble_eq_true rfl⟩ rfl rfl (Nat.le_of_ble_eq_true rfl) rfl (fun M43 => ?_)
              refine r_aload_n (pc' := 121) hx (hd 60) rfl 1 rfl rfl ?_
              refine r_callVU (pc' := 124) (As := []) (rest := []) hx (hd 61) md_X11_playRubber mi_X11_playRubber ms_X11_playRubber ml_11_373 (cX11_playRubber (xl x) w hL t ht M43) ht rfl (by decide) ⟨Nat.le_of_ble_eq_true rfl, Nat.le_of_ble_eq_true rfl⟩ rfl rfl (Nat.le_of_ble_eq_true rfl) rfl (fun M44 => ?_)
              refine r_iinc (pc' := 127) (v := 1) hx (hd 62) 4 rfl (by decide) (by decide) (fun v45 => [(5, .int v45), (4, .int r38), (0, .ref t), (2, .int p2), (3, .int v13)]) (fun _ => rfl) rfl (fun v45 => ?_)
              refine r_goto (tgt := 68) hx (hd 63) (by decide) ?_
              refine r_sub [2, 3, 4, 1, 0] rfl ?_
              exact ih18 r38 v45 M44
        · skip
          refine r_sub [0] rfl ?_
          exact hj2
abbrev yX11_drawn : MethodName := ({ cls := "CribbageRoom", name := "drawn", desc := "(I)I" } : Jvm.MethodName)
def tbX11_drawn : List (Nat × Instr × Nat) := [(0, .iload_n 1, 1), (1, .invokestatic 141, 3), (4, .ifCond .eq 12, 3), (7, .aload_n 0, 1), (8, .getfield 99, 3), (11, .iload_n 1, 1), (12, .iaload, 1), (13, .goto 4, 3), (16, .iconst (-1), 1), (17, .ireturn, 1)]
theorem dX11_drawn : ∀ q ∈ tbX11_drawn, decode prog_1_method_36_code q.1 = .ok q.2 := by decide +kernel
set_option maxRecDepth 20000 in
theorem cX11_drawn (l : Launch) (w : WX) (hL : Lay w) (t : Nat) (ht : Wat w t 11 0) (p1 : Int32) (M : Mem) : Ct l w yX11_drawn prog_1_method_36_code 2 (Option.some FieldType.int) 1 20 evI (emC M) [.ref t, .int p1] M (FX11_drawn t p1 M) := by
  refine ct_of (by decide) (Nat.le_of_ble_eq_true rfl) (fun x hl hx hb hz => ?_)
  subst hl
  have hd : ∀ i, DAt (xc x).code (tbX11_drawn[i]?) := fun i => by rw [hb]; exact dat_of dX11_drawn i
  show C x w (Qn x w evI (emC M)) 2 0 [(0, .ref t), (1, .int p1)] [] M (FX11_drawn t p1 M)
  unfold FX11_drawn
  refine r_iload_n (pc' := 1) hx (hd 0) rfl 1 rfl rfl ?_
  refine r_callS (pc' := 4) (As := [.int p1]) (rest := []) hx (hd 1) md_X11_isPlayer mst_X11_isPlayer ml_11_141 (cX11_isPlayer (xl x) w hL p1 M) ⟨Nat.le_of_ble_eq_true rfl, Nat.le_of_ble_eq_true rfl⟩ rfl rfl (Nat.le_of_ble_eq_true rfl) (fun r1 => .int r1 :: []) (fun _ => M) (fun _ => ⟨rfl, rfl⟩) rfl (fun r1 _ => ?_)
  refine r_jn1 17 (fun v2 => []) (fun v2 => [.int v2]) (fun v2 => M) (fun v2 => ?_) (fun j3 hj4 => ?_)
  · skip
    exact r_iret hx (hd 9) rfl rfl hz
  refine r_if_eq (tgt := 16) (pc' := 7) hx (hd 2) (by decide) (fun _ => ?_) rfl (fun _ => ?_)
  · skip
    refine r_iconst (pc' := 17) (v := (-1)) hx (hd 8) (by decide) rfl ?_
    refine r_sub [] rfl ?_
    exact hj4 (-1)
  · skip
    refine r_aload_n (pc' := 8) hx (hd 3) rfl 0 rfl rfl ?_
    refine r_get (pc' := 11) (v := .ref (t + 276)) hx (hd 4) fl_11_99 ht rfl (by decide) rfl ?_
    have h5 := hL.1 _ _ _ ht 15 276 20 2 rfl
    refine r_iload_n (pc' := 12) hx (hd 5) rfl 1 rfl rfl ?_
    refine r_gd (fun h6 => ?_)
    refine r_iald (pc' := 13) (k := ix p1) hx (hd 6) h5 h6 rfl rfl ?_
    refine r_goto (tgt := 17) hx (hd 7) (by decide) ?_
    refine r_sub [] rfl ?_
    exact hj4 (mI M (t + 276) (ix p1))
abbrev yX6_copyFrom : MethodName := ({ cls := "CribbageRoom$State", name := "copyFrom", desc := "(LCribbageRoom$State;)V" } : Jvm.MethodName)
def tbX6_copyFrom : List (Nat × Instr × Nat) := [(0, .aload_n 0, 1), (1, .getfield 12, 3), (4, .aload_n 1, 1), (5, .getfield 12, 3), (8, .invokevirtual 44, 3), (11, .aload_n 1, 1), (12, .getfield 18, 3), (15, .iconst 0, 1), (16, .aload_n 0, 1), (17, .getfield 18, 3), (20, .iconst 0, 1), (21, .bipush 6, 2), (23, .invokestatic 48, 3), (26, .aload_n 1, 1), (27, .getfield 22, 3), (30, .iconst 0, 1), (31, .aload_n 0, 1), (32, .getfield 22, 3), (35, .iconst 0, 1), (36, .bipush 6, 2), (38, .invokestatic 48, 3), (41, .aload_n 1, 1), (42, .getfield 31, 3), (45, .iconst 0, 1), (46, .aload_n 0, 1), (47, .getfield 31, 3), (50, .iconst 0, 1), (51, .aload_n 0, 1), (52, .getfield 31, 3), (55, .arraylength, 1), (56, .invokestatic 48, 3), (59, .iconst 0, 1), (60, .istore_n 2, 1), (61, .iload_n 2, 1), (62, .bipush 6, 2), (64, .if_icmp .ge 21, 3), (67, .aload_n 0, 1), (68, .getfield 27, 3), (71, .iload_n 2, 1), (72, .aload_n 1, 1), (73, .getfield 27, 3), (76, .iload_n 2, 1), (77, .aaload, 1), (78, .aastore, 1), (79, .iinc 2 1, 3), (82, .goto (-21), 3), (85, .aload_n 0, 1), (86, .aload_n 1, 1), (87, .getfield 54, 3), (90, .putfield 54, 3), (93, .aload_n 0, 1), (94, .aload_n 1, 1), (95, .getfield 58, 3), (98, .putfield 58, 3), (101, .aload_n 0, 1), (102, .aload_n 1, 1), (103, .getfield 41, 3), (106, .putfield 41, 3), (109, .aload_n 0, 1), (110, .aload_n 1, 1), (111, .getfield 34, 3), (114, .putfield 34, 3), (117, .return_, 1)]
theorem dX6_copyFrom : ∀ q ∈ tbX6_copyFrom, decode prog_8_method_5_code q.1 = .ok q.2 := by decide +kernel
set_option maxRecDepth 20000 in
theorem cX6_copyFrom (l : Launch) (w : WX) (hL : Lay w) (t : Nat) (ht : Wat w t 6 0) (p1 : Nat) (hp1 : Wat w p1 6 0) (M : Mem) : Ct l w yX6_copyFrom prog_8_method_5_code 3 (Option.none : Option FieldType) 2 61 evU emU [.ref t, .ref p1] M (FX6_copyFrom t p1 M) := by
  refine ct_of (by decide) (Nat.le_of_ble_eq_true rfl) (fun x hl hx hb hz => ?_)
  subst hl
  have hd : ∀ i, DAt (xc x).code (tbX6_copyFrom[i]?) := fun i => by rw [hb]; exact dat_of dX6_copyFrom i
  show C x w (Qn x w evU emU) 3 0 [(0, .ref t), (1, .ref p1)] [] M (FX6_copyFrom t p1 M)
  unfold FX6_copyFrom
  refine r_aload_n (pc' := 1) hx (hd 0) rfl 0 rfl rfl ?_
  refine r_get (pc' := 4) (v := .ref (t + 1)) hx (hd 1) fl_6_12 ht rfl (by decide) rfl ?_
  have h1 := hL.1 _ _ _ ht 0 1 8 0 rfl
  refine r_aload_n (pc' := 5) hx (hd 2) rfl 1 rfl rfl ?_
  refine r_get (pc' := 8) (v := .ref (p1 + 1)) hx (hd 3) fl_6_12 hp1 rfl (by decide) rfl ?_
  have h2 := hL.1 _ _ _ hp1 0 1 8 0 rfl
  refine r_callVU (pc' := 11) (As := [.ref (p1 + 1)]) (rest := []) hx (hd 4) md_X8_copyFrom mi_X8_copyFrom ms_X8_copyFrom ml_6_44 (cX8_copyFrom (xl x) w hL (t + 1) h1 (p1 + 1) h2 M) h1 rfl (by decide) ⟨Nat.le_of_ble_eq_true rfl, Nat.le_of_ble_eq_true rfl⟩ rfl rfl (Nat.le_of_ble_eq_true rfl) rfl (fun M3 => ?_)
  refine r_aload_n (pc' := 12) hx (hd 5) rfl 1 rfl rfl ?_
  refine r_get (pc' := 15) (v := .ref (p1 + 5)) hx (hd 6) fl_6_18 hp1 rfl (by decide) rfl ?_
  have h4 := hL.1 _ _ _ hp1 1 5 20 6 rfl
  refine r_iconst (pc' := 16) (v := 0) hx (hd 7) (by decide) rfl ?_
  refine r_aload_n (pc' := 17) hx (hd 8) rfl 0 rfl rfl ?_
  refine r_get (pc' := 20) (v := .ref (t + 5)) hx (hd 9) fl_6_18 ht rfl (by decide) rfl ?_
  have h5 := hL.1 _ _ _ ht 1 5 20 6 rfl
  refine r_iconst (pc' := 21) (v := 0) hx (hd 10) (by decide) rfl ?_
  refine r_bipush (pc' := 23) (v := 6) hx (hd 11) (by decide) rfl ?_
  refine r_copyi (pc' := 26) (s0 := 0) (d0 := 0) (k := 6) hx (hd 12) ml_6_48 ac_nat ac_st ac_ini h4 h5 ⟨by decide, by decide⟩ ⟨by decide, by decide⟩ ⟨by decide, by decide⟩ (by decide) (by decide) ⟨by decide, by decide⟩ rfl (fun M6 => ?_)
  refine r_aload_n (pc' := 27) hx (hd 13) rfl 1 rfl rfl ?_
  refine r_get (pc' := 30) (v := .ref (p1 + 6)) hx (hd 14) fl_6_22 hp1 rfl (by decide) rfl ?_
  have h7 := hL.1 _ _ _ hp1 2 6 20 6 rfl
  refine r_iconst (pc' := 31) (v := 0) hx (hd 15) (by decide) rfl ?_
  refine r_aload_n (pc' := 32) hx (hd 16) rfl 0 rfl rfl ?_
  refine r_get (pc' := 35) (v := .ref (t + 6)) hx (hd 17) fl_6_22 ht rfl (by decide) rfl ?_
  have h8 := hL.1 _ _ _ ht 2 6 20 6 rfl
  refine r_iconst (pc' := 36) (v := 0) hx (hd 18) (by decide) rfl ?_
  refine r_bipush (pc' := 38) (v := 6) hx (hd 19) (by decide) rfl ?_
  refine r_copyi (pc' := 41) (s0 := 0) (d0 := 0) (k := 6) hx (hd 20) ml_6_48 ac_nat ac_st ac_ini h7 h8 ⟨by decide, by decide⟩ ⟨by decide, by decide⟩ ⟨by decide, by decide⟩ (by decide) (by decide) ⟨by decide, by decide⟩ rfl (fun M9 => ?_)
  refine r_aload_n (pc' := 42) hx (hd 21) rfl 1 rfl rfl ?_
  refine r_get (pc' := 45) (v := .ref (p1 + 8)) hx (hd 22) fl_6_31 hp1 rfl (by decide) rfl ?_
  have h10 := hL.1 _ _ _ hp1 4 8 20 3 rfl
  refine r_iconst (pc' := 46) (v := 0) hx (hd 23) (by decide) rfl ?_
  refine r_aload_n (pc' := 47) hx (hd 24) rfl 0 rfl rfl ?_
  refine r_get (pc' := 50) (v := .ref (t + 8)) hx (hd 25) fl_6_31 ht rfl (by decide) rfl ?_
  have h11 := hL.1 _ _ _ ht 4 8 20 3 rfl
  refine r_iconst (pc' := 51) (v := 0) hx (hd 26) (by decide) rfl ?_
  refine r_aload_n (pc' := 52) hx (hd 27) rfl 0 rfl rfl ?_
  refine r_get (pc' := 55) (v := .ref (t + 8)) hx (hd 28) fl_6_31 ht rfl (by decide) rfl ?_
  have h12 := hL.1 _ _ _ ht 4 8 20 3 rfl
  refine r_alen (pc' := 56) (v := 3) hx (hd 29) h12 (by decide) rfl ?_
  refine r_copyi (pc' := 59) (s0 := 0) (d0 := 0) (k := 3) hx (hd 30) ml_6_48 ac_nat ac_st ac_ini h10 h11 ⟨by decide, by decide⟩ ⟨by decide, by decide⟩ ⟨by decide, by decide⟩ (by decide) (by decide) ⟨by decide, by decide⟩ rfl (fun M13 => ?_)
  refine r_iconst (pc' := 60) (v := 0) hx (hd 31) (by decide) rfl ?_
  refine r_istore_n (pc' := 61) (L' := [(2, .int 0), (0, .ref t), (1, .ref p1)]) hx (hd 32) rfl (by decide) rfl rfl ?_
  refine r_sub [1, 2, 0] rfl ?_
  refine r_wl2 (fun v14 M15 => [(0, .ref t), (1, .ref p1), (2, .int v14)]) (fun v14 M15 => []) (fun v14 M15 => M15) (fun v14 M15 rec16 ih17 => ?_) fuel 0 M13
  refine r_iload_n (pc' := 62) hx (hd 33) rfl 2 rfl rfl ?_
  refine r_bipush (pc' := 64) (v := 6) hx (hd 34) (by decide) rfl ?_
  refine r_icmp_ge (tgt := 85) (pc' := 67) hx (hd 35) (by decide) (fun _ => ?_) rfl (fun _ => ?_)
  · skip
    refine r_aload_n (pc' := 86) hx (hd 46) rfl 0 rfl rfl ?_
    refine r_aload_n (pc' := 87) hx (hd 47) rfl 1 rfl rfl ?_
    refine r_get (pc' := 90) (v := .long (mJ M15 p1 5)) hx (hd 48) fl_6_54 hp1 rfl (by decide) rfl ?_
    refine r_putJ (pc' := 93) hx (hd 49) fp_6_54 ht rfl (by decide) rfl (fun M18 => ?_)
    refine r_aload_n (pc' := 94) hx (hd 50) rfl 0 rfl rfl ?_
    refine r_aload_n (pc' := 95) hx (hd 51) rfl 1 rfl rfl ?_
    refine r_get (pc' := 98) (v := .int (mI M18 p1 6)) hx (hd 52) fl_6_58 hp1 rfl (by decide) rfl ?_
    refine r_putI (pc' := 101) hx (hd 53) fp_6_58 ht rfl (by decide) rfl (fun M19 => ?_)
    refine r_aload_n (pc' := 102) hx (hd 54) rfl 0 rfl rfl ?_
    refine r_aload_n (pc' := 103) hx (hd 55) rfl 1 rfl rfl ?_
    refine r_get (pc' := 106) (v := .int (mI M19 p1 7)) hx (hd 56) fl_6_41 hp1 rfl (by decide) rfl ?_
    refine r_putI (pc' := 109) hx (hd 57) fp_6_41 ht rfl (by decide) rfl (fun M20 => ?_)
    refine r_aload_n (pc' := 110) hx (hd 58) rfl 0 rfl rfl ?_
    refine r_aload_n (pc' := 111) hx (hd 59) rfl 1 rfl rfl ?_
    refine r_get (pc' := 114) (v := .int (mI M20 p1 8)) hx (hd 60) fl_6_34 hp1 rfl (by decide) rfl ?_
    refine r_putI (pc' := 117) hx (hd 61) fp_6_34 ht rfl (by decide) rfl (fun M21 => ?_)
    exact r_vret hx (hd 62) rfl rfl hz
  · skip
    refine r_aload_n (pc' := 68) hx (hd 36) rfl 0 rfl rfl ?_
    refine r_get (pc' := 71) (v := .ref (t + 7)) hx (hd 37) fl_6_27 ht rfl (by decide) rfl ?_
    have h22 := hL.1 _ _ _ ht 3 7 36 6 rfl
    refine r_iload_n (pc' := 72) hx (hd 38) rfl 2 rfl rfl ?_
    refine r_aload_n (pc' := 73) hx (hd 39) rfl 1 rfl rfl ?_
    refine r_get (pc' := 76) (v := .ref (p1 + 7)) hx (hd 40) fl_6_27 hp1 rfl (by decide) rfl ?_
    have h23 := hL.1 _ _ _ hp1 3 7 36 6 rfl
    refine r_iload_n (pc' := 77) hx (hd 41) rfl 2 rfl rfl ?_
    refine r_gd (fun h24 => ?_)
    refine r_aaldT (pc' := 78) (k := ix v14) hx (hd 42) h23 h24 rfl rfl (fun wt25 => ?_)
    refine r_nmR (fun v26 hn27 => ?_)
    refine r_gd (fun h29 => ?_)
    refine r_aastT (pc' := 79) (k := ix v14) (v := v26) hx (hd 43) h22 h29 rfl (fun b hb => (fun b hb => wt25 _ _ _ h23 (ix v14) 9 b rfl (hn27 ▸ hb)) b hb) rfl (fun M28 => ?_)
    refine r_iinc (pc' := 82) (v := 1) hx (hd 44) 2 rfl (by decide) (by decide) (fun v30 => [(2, .int v30), (0, .ref t), (1, .ref p1)]) (fun _ => rfl) rfl (fun v30 => ?_)
    refine r_goto (tgt := 61) hx (hd 45) (by decide) ?_
    refine r_sub [1, 2, 0] rfl ?_
    exact ih17 v30 M28
abbrev yX11_image : MethodName := ({ cls := "CribbageRoom", name := "image", desc := "(I)I" } : Jvm.MethodName)
def tbX11_image : List (Nat × Instr × Nat) := [(0, .iload_n 1, 1), (1, .ifCond .lt 12, 3), (4, .iload_n 1, 1), (5, .aload_n 0, 1), (6, .getfield 16, 3), (9, .arraylength, 1), (10, .if_icmp .lt 9, 3), (13, .aload_n 0, 1), (14, .iconst (-1), 1), (15, .invokevirtual 211, 3), (18, .ireturn, 1), (19, .aload_n 0, 1), (20, .getfield 16, 3), (23, .iload_n 1, 1), (24, .aaload, 1), (25, .aload_n 0, 1), (26, .getfield 12, 3), (29, .invokevirtual 376, 3), (32, .aload_n 0, 1), (33, .getfield 16, 3), (36, .iload_n 1, 1), (37, .aaload, 1), (38, .iconst 1, 1), (39, .putfield 379, 3), (42, .aload_n 0, 1), (43, .iconst 0, 1), (44, .invokevirtual 221, 3), (47, .ireturn, 1)]
theorem dX11_image : ∀ q ∈ tbX11_image, decode prog_1_method_37_code q.1 = .ok q.2 := by decide +kernel
set_option maxRecDepth 20000 in
theorem cX11_image (l : Launch) (w : WX) (hL : Lay w) (t : Nat) (ht : Wat w t 11 0) (p1 : Int32) (M : Mem) : Ct l w yX11_image prog_1_method_37_code 2 (Option.some FieldType.int) 3 83 evIM emM [.ref t, .int p1] M (FX11_image t p1 M) := by
  refine ct_of (by decide) (Nat.le_of_ble_eq_true rfl) (fun x hl hx hb hz => ?_)
  subst hl
  have hd : ∀ i, DAt (xc x).code (tbX11_image[i]?) := fun i => by rw [hb]; exact dat_of dX11_image i
  show C x w (Qn x w evIM emM) 2 0 [(0, .ref t), (1, .int p1)] [] M (FX11_image t p1 M)
  unfold FX11_image
  refine r_iload_n (pc' := 1) hx (hd 0) rfl 1 rfl rfl ?_
  refine r_jn0 13 ([(0, .ref t)]) ([]) (M) (?_) (fun j1 hj2 => ?_)
  · skip
    refine r_aload_n (pc' := 14) hx (hd 7) rfl 0 rfl rfl ?_
    refine r_iconst (pc' := 15) (v := (-1)) hx (hd 8) (by decide) rfl ?_
    refine r_callVI (pc' := 18) (As := [.int (-1)]) (rest := []) hx (hd 9) md_X11_refuse mi_X11_refuse ms_X11_refuse ml_11_211 (cX11_refuse (xl x) w hL t ht (-1) M) ht rfl (by decide) ⟨Nat.le_of_ble_eq_true rfl, Nat.le_of_ble_eq_true rfl⟩ rfl rfl (Nat.le_of_ble_eq_true rfl) (fun r4 => .int r4 :: []) (fun _ => rfl) rfl (fun r4 M3 => ?_)
    exact r_iret hx (hd 10) rfl rfl hz
  refine r_if_lt (tgt := 13) (pc' := 4) hx (hd 1) (by decide) (fun _ => ?_) rfl (fun _ => ?_)
  · skip
    refine r_sub [0] rfl ?_
    exact hj2
  · skip
    refine r_iload_n (pc' := 5) hx (hd 2) rfl 1 rfl rfl ?_
    refine r_aload_n (pc' := 6) hx (hd 3) rfl 0 rfl rfl ?_
    refine r_get (pc' := 9) (v := .ref (t + 10)) hx (hd 4) fl_11_16 ht rfl (by decide) rfl ?_
    have h5 := hL.1 _ _ _ ht 1 10 32 2 rfl
    refine r_alenA (pc' := 10) (v := 2) hx (hd 5) h5 rfl rfl (by decide) rfl ?_
    refine r_icmp_lt (tgt := 19) (pc' := 13) hx (hd 6) (by decide) (fun _ => ?_) rfl (fun _ => ?_)
    · skip
      refine r_aload_n (pc' := 20) hx (hd 11) rfl 0 rfl rfl ?_
      refine r_get (pc' := 23) (v := .ref (t + 10)) hx (hd 12) fl_11_16 ht rfl (by decide) rfl ?_
      have h6 := hL.1 _ _ _ ht 1 10 32 2 rfl
      refine r_iload_n (pc' := 24) hx (hd 13) rfl 1 rfl rfl ?_
      refine r_gd (fun h7 => ?_)
      refine r_aald (pc' := 25) (k := ix p1) hx (hd 14) h6 rfl rfl rfl h7 rfl rfl ?_
      have h8 := hL.2 _ _ _ h6 4 1 9 6 0 rfl (ix p1) (inb_lt h7)
      refine r_aload_n (pc' := 26) hx (hd 15) rfl 0 rfl rfl ?_
      refine r_get (pc' := 29) (v := .ref (t + 1)) hx (hd 16) fl_11_12 ht rfl (by decide) rfl ?_
      have h9 := hL.1 _ _ _ ht 0 1 6 0 rfl
      refine r_callVU (pc' := 32) (As := [.ref (t + 1)]) (rest := []) hx (hd 17) md_X6_copyFrom mi_X6_copyFrom ms_X6_copyFrom ml_11_376 (cX6_copyFrom (xl x) w hL ((t + 10) + 1 + 9 * (ix p1)) h8 (t + 1) h9 M) h8 rfl (by decide) ⟨Nat.le_of_ble_eq_true rfl, Nat.le_of_ble_eq_true rfl⟩ rfl rfl (Nat.le_of_ble_eq_true rfl) rfl (fun M10 => ?_)
      refine r_aload_n (pc' := 33) hx (hd 18) rfl 0 rfl rfl ?_
      refine r_get (pc' := 36) (v := .ref (t + 10)) hx (hd 19) fl_11_16 ht rfl (by decide) rfl ?_
      have h11 := hL.1 _ _ _ ht 1 10 32 2 rfl
      refine r_iload_n (pc' := 37) hx (hd 20) rfl 1 rfl rfl ?_
      refine r_gd (fun h12 => ?_)
      refine r_aald (pc' := 38) (k := ix p1) hx (hd 21) h11 rfl rfl rfl h12 rfl rfl ?_
      have h13 := hL.2 _ _ _ h11 4 1 9 6 0 rfl (ix p1) (inb_lt h12)
      refine r_iconst (pc' := 39) (v := 1) hx (hd 22) (by decide) rfl ?_
      refine r_putZ (pc' := 42) hx (hd 23) fp_11_379 h13 rfl (by decide) rfl rfl (fun M14 => ?_)
      refine r_aload_n (pc' := 43) hx (hd 24) rfl 0 rfl rfl ?_
      refine r_iconst (pc' := 44) (v := 0) hx (hd 25) (by decide) rfl ?_
      refine r_callVI (pc' := 47) (As := [.int 0]) (rest := []) hx (hd 26) md_X11_grant mi_X11_grant ms_X11_grant ml_11_221 (cX11_grant (xl x) w hL t ht 0 M14) ht rfl (by decide) ⟨Nat.le_of_ble_eq_true rfl, Nat.le_of_ble_eq_true rfl⟩ rfl rfl (Nat.le_of_ble_eq_true rfl) (fun r16 => .int r16 :: []) (fun _ => rfl) rfl (fun r16 M15 => ?_)
      exact r_iret hx (hd 27) rfl rfl hz
    · skip
      refine r_sub [0] rfl ?_
      exact hj2
abbrev yX11_back : MethodName := ({ cls := "CribbageRoom", name := "back", desc := "(I)I" } : Jvm.MethodName)
def tbX11_back : List (Nat × Instr × Nat) := [(0, .iload_n 1, 1), (1, .ifCond .lt 12, 3), (4, .iload_n 1, 1), (5, .aload_n 0, 1), (6, .getfield 16, 3), (9, .arraylength, 1), (10, .if_icmp .lt 9, 3), (13, .aload_n 0, 1), (14, .iconst (-1), 1), (15, .invokevirtual 211, 3), (18, .ireturn, 1), (19, .aload_n 0, 1), (20, .getfield 16, 3), (23, .iload_n 1, 1), (24, .aaload, 1), (25, .getfield 379, 3), (28, .ifCond .ne 10, 3), (31, .aload_n 0, 1), (32, .bipush (-2), 2), (34, .invokevirtual 211, 3), (37, .ireturn, 1), (38, .aload_n 0, 1), (39, .getfield 12, 3), (42, .aload_n 0, 1), (43, .getfield 16, 3), (46, .iload_n 1, 1), (47, .aaload, 1), (48, .invokevirtual 376, 3), (51, .aload_n 0, 1), (52, .getfield 23, 3), (55, .invokevirtual 218, 3), (58, .aload_n 0, 1), (59, .iconst 0, 1), (60, .invokevirtual 221, 3), (63, .ireturn, 1)]
theorem dX11_back : ∀ q ∈ tbX11_back, decode prog_1_method_38_code q.1 = .ok q.2 := by decide +kernel
set_option maxRecDepth 20000 in
theorem cX11_back (l : Launch) (w : WX) (hL : Lay w) (t : Nat) (ht : Wat w t 11 0) (p1 : Int32) (M : Mem) : Ct l w yX11_back prog_1_method_38_code 2 (Option.some FieldType.int) 3 83 evIM emM [.ref t, .int p1] M (FX11_back t p1 M) := by
  refine ct_of (by decide) (Nat.le_of_ble_eq_true rfl) (fun x hl hx hb hz => ?_)
  subst hl
  have hd : ∀ i, DAt (xc x).code (tbX11_back[i]?) := fun i => by rw [hb]; exact dat_of dX11_back i
  show C x w (Qn x w evIM emM) 2 0 [(0, .ref t), (1, .int p1)] [] M (FX11_back t p1 M)
  unfold FX11_back
  refine r_iload_n (pc' := 1) hx (hd 0) rfl 1 rfl rfl ?_
  refine r_jn0 13 ([(0, .ref t)]) ([]) (M) (?_) (fun j1 hj2 => ?_)
  · skip
    refine r_aload_n (pc' := 14) hx (hd 7) rfl 0 rfl rfl ?_
    refine r_iconst (pc' := 15) (v := (-1)) hx (hd 8) (by decide) rfl ?_
    refine r_callVI (pc' := 18) (As := [.int (-1)]) (rest := []) hx (hd 9) md_X11_refuse mi_X11_refuse ms_X11_refuse ml_11_211 (cX11_refuse (xl x) w hL t ht (-1) M) ht rfl (by decide) ⟨Nat.le_of_ble_eq_true rfl, Nat.le_of_ble_eq_true rfl⟩ rfl rfl (Nat.le_of_ble_eq_true rfl) (fun r4 => .int r4 :: []) (fun _ => rfl) rfl (fun r4 M3 => ?_)
    exact r_iret hx (hd 10) rfl rfl hz
  refine r_if_lt (tgt := 13) (pc' := 4) hx (hd 1) (by decide) (fun _ => ?_) rfl (fun _ => ?_)
  · skip
    refine r_sub [0] rfl ?_
    exact hj2
  · skip
    refine r_iload_n (pc' := 5) hx (hd 2) rfl 1 rfl rfl ?_
    refine r_aload_n (pc' := 6) hx (hd 3) rfl 0 rfl rfl ?_
    refine r_get (pc' := 9) (v := .ref (t + 10)) hx (hd 4) fl_11_16 ht rfl (by decide) rfl ?_
    have h5 := hL.1 _ _ _ ht 1 10 32 2 rfl
    refine r_alenA (pc' := 10) (v := 2) hx (hd 5) h5 rfl rfl (by decide) rfl ?_
    refine r_icmp_lt (tgt := 19) (pc' := 13) hx (hd 6) (by decide) (fun _ => ?_) rfl (fun _ => ?_)
    · skip
      refine r_aload_n (pc' := 20) hx (hd 11) rfl 0 rfl rfl ?_
      refine r_get (pc' := 23) (v := .ref (t + 10)) hx (hd 12) fl_11_16 ht rfl (by decide) rfl ?_
      have h6 := hL.1 _ _ _ ht 1 10 32 2 rfl
      refine r_iload_n (pc' := 24) hx (hd 13) rfl 1 rfl rfl ?_
      refine r_gd (fun h7 => ?_)
      refine r_aald (pc' := 25) (k := ix p1) hx (hd 14) h6 rfl rfl rfl h7 rfl rfl ?_
      have h8 := hL.2 _ _ _ h6 4 1 9 6 0 rfl (ix p1) (inb_lt h7)
      refine r_get (pc' := 28) (v := .int (mI M ((t + 10) + 1 + 9 * (ix p1)) 9)) hx (hd 15) fl_11_379 h8 rfl (by decide) rfl ?_
      refine r_if_ne (tgt := 38) (pc' := 31) hx (hd 16) (by decide) (fun _ => ?_) rfl (fun _ => ?_)
      · skip
        refine r_aload_n (pc' := 39) hx (hd 21) rfl 0 rfl rfl ?_
        refine r_get (pc' := 42) (v := .ref (t + 1)) hx (hd 22) fl_11_12 ht rfl (by decide) rfl ?_
        have h9 := hL.1 _ _ _ ht 0 1 6 0 rfl
        refine r_aload_n (pc' := 43) hx (hd 23) rfl 0 rfl rfl ?_
        refine r_get (pc' := 46) (v := .ref (t + 10)) hx (hd 24) fl_11_16 ht rfl (by decide) rfl ?_
        have h10 := hL.1 _ _ _ ht 1 10 32 2 rfl
        refine r_iload_n (pc' := 47) hx (hd 25) rfl 1 rfl rfl ?_
        refine r_gd (fun h11 => ?_)
        refine r_aald (pc' := 48) (k := ix p1) hx (hd 26) h10 rfl rfl rfl h11 rfl rfl ?_
        have h12 := hL.2 _ _ _ h10 4 1 9 6 0 rfl (ix p1) (inb_lt h11)
        refine r_callVU (pc' := 51) (As := [.ref ((t + 10) + 1 + 9 * (ix p1))]) (rest := []) hx (hd 27) md_X6_copyFrom mi_X6_copyFrom ms_X6_copyFrom ml_11_376 (cX6_copyFrom (xl x) w hL (t + 1) h9 ((t + 10) + 1 + 9 * (ix p1)) h12 M) h9 rfl (by decide) ⟨Nat.le_of_ble_eq_true rfl, Nat.le_of_ble_eq_true rfl⟩ rfl rfl (Nat.le_of_ble_eq_true rfl) rfl (fun M13 => ?_)
        refine r_aload_n (pc' := 52) hx (hd 28) rfl 0 rfl rfl ?_
        refine r_get (pc' := 55) (v := .ref (t + 29)) hx (hd 29) fl_11_23 ht rfl (by decide) rfl ?_
        have h14 := hL.1 _ _ _ ht 2 29 4 0 rfl
        refine r_callVU (pc' := 58) (As := []) (rest := []) hx (hd 30) md_X4_clear mi_X4_clear ms_X4_clear ml_11_218 (cX4_clear (xl x) w hL (t + 29) h14 M13) h14 rfl (by decide) ⟨Nat.le_of_ble_eq_true rfl, Nat.le_of_ble_eq_true rfl⟩ rfl rfl (Nat.le_of_ble_eq_true rfl) rfl (fun M15 => ?_)
        refine r_aload_n (pc' := 59) hx (hd 31) rfl 0 rfl rfl ?_
        refine r_iconst (pc' := 60) (v := 0) hx (hd 32) (by decide) rfl ?_
        refine r_callVI (pc' := 63) (As := [.int 0]) (rest := []) hx (hd 33) md_X11_grant mi_X11_grant ms_X11_grant ml_11_221 (cX11_grant (xl x) w hL t ht 0 M15) ht rfl (by decide) ⟨Nat.le_of_ble_eq_true rfl, Nat.le_of_ble_eq_true rfl⟩ rfl rfl (Nat.le_of_ble_eq_true rfl) (fun r17 => .int r17 :: []) (fun _ => rfl) rfl (fun r17 M16 => ?_)
        exact r_iret hx (hd 34) rfl rfl hz
      · skip
        refine r_aload_n (pc' := 32) hx (hd 17) rfl 0 rfl rfl ?_
        refine r_bipush (pc' := 34) (v := (-2)) hx (hd 18) (by decide) rfl ?_
        refine r_callVI (pc' := 37) (As := [.int (-2)]) (rest := []) hx (hd 19) md_X11_refuse mi_X11_refuse ms_X11_refuse ml_11_211 (cX11_refuse (xl x) w hL t ht (-2) M) ht rfl (by decide) ⟨Nat.le_of_ble_eq_true rfl, Nat.le_of_ble_eq_true rfl⟩ rfl rfl (Nat.le_of_ble_eq_true rfl) (fun r19 => .int r19 :: []) (fun _ => rfl) rfl (fun r19 M18 => ?_)
        exact r_iret hx (hd 20) rfl rfl hz
    · skip
      refine r_sub [0] rfl ?_
      exact hj2
