abbrev yX12_canPlay : MethodName := ({ cls := "CribbageRoomModel", name := "canPlay", desc := "(II)Z" } : Jvm.MethodName)
def tbX12_canPlay : List (Nat × Instr × Nat) := [(0, .aload_n 0, 1), (1, .getfield 13, 3), (4, .bipush 18, 2), (6, .iload_n 1, 1), (7, .iadd, 1), (8, .iaload, 1), (9, .iload_n 2, 1), (10, .if_icmp .ne 45, 3), (13, .aload_n 0, 1), (14, .getfield 13, 3), (17, .bipush 70, 2), (19, .iload_n 1, 1), (20, .iadd, 1), (21, .iaload, 1), (22, .ifCond .ne 33, 3), (25, .aload_n 0, 1), (26, .iload_n 1, 1), (27, .invokevirtual 221, 3), (30, .aload_n 0, 1), (31, .getfield 13, 3), (34, .bipush 12, 2), (36, .iaload, 1), (37, .iadd, 1), (38, .bipush 31, 2), (40, .if_icmp .gt 15, 3), (43, .aload_n 0, 1), (44, .iload_n 1, 1), (45, .invokevirtual 224, 3), (48, .ifCond .ne 7, 3), (51, .iconst 1, 1), (52, .goto 4, 3), (55, .iconst 0, 1), (56, .ireturn, 1)]
theorem dX12_canPlay : ∀ q ∈ tbX12_canPlay, decode prog_14_method_82_code q.1 = .ok q.2 := by decide +kernel
set_option maxRecDepth 20000 in
theorem cX12_canPlay (l : Launch) (w : WX) (hL : Lay w) (t : Nat) (ht : Wat w t 12 0) (p1 : Int32) (p2 : Int32) (M : Mem) : Ct l w yX12_canPlay prog_14_method_82_code 3 (Option.some FieldType.boolean) 5 125 evIM emM [.ref t, .int p1, .int p2] M (FX12_canPlay t p1 p2 M) := by
  refine ct_of (by decide) (Nat.le_of_ble_eq_true rfl) (fun x hl hx hb hz => ?_)
  subst hl
  have hd : ∀ i, DAt (xc x).code (tbX12_canPlay[i]?) := fun i => by rw [hb]; exact dat_of dX12_canPlay i
  show C x w (Qn x w evIM emM) 3 0 [(0, .ref t), (1, .int p1), (2, .int p2)] [] M (FX12_canPlay t p1 p2 M)
  unfold FX12_canPlay
  refine r_aload_n (pc' := 1) hx (hd 0) rfl 0 rfl rfl ?_
  refine r_get (pc' := 4) (v := .ref (t + 2)) hx (hd 1) fl_12_13 ht rfl (by decide) rfl ?_
  have h1 := hL.1 _ _ _ ht 3 2 20 5594 rfl
  refine r_bipush (pc' := 6) (v := 18) hx (hd 2) (by decide) rfl ?_
  refine r_iload_n (pc' := 7) hx (hd 3) rfl 1 rfl rfl ?_
  refine r_iadd (pc' := 8) hx (hd 4) rfl ?_
  refine r_gd (fun h2 => ?_)
  refine r_iald (pc' := 9) (k := ix (18 + p1)) hx (hd 5) h1 h2 rfl rfl ?_
  refine r_iload_n (pc' := 10) hx (hd 6) rfl 2 rfl rfl ?_
  refine r_jn2 56 (fun v3 M4 => []) (fun v3 M4 => [.int v3]) (fun v3 M4 => M4) (fun v3 M4 => ?_) (fun j5 hj6 => ?_)
  · skip
    refine r_gd (fun h7 => ?_)
    exact r_zret hx (hd 32) h7 rfl rfl hz
  refine r_jn1 55 (fun M8 => []) (fun M8 => []) (fun M8 => M8) (fun M8 => ?_) (fun j9 hj10 => ?_)
  · skip
    refine r_iconst (pc' := 56) (v := 0) hx (hd 31) (by decide) rfl ?_
    exact hj6 0 M8
  refine r_icmp_ne (tgt := 55) (pc' := 13) hx (hd 7) (by decide) (fun _ => ?_) rfl (fun _ => ?_)
  · skip
    refine r_sub [] rfl ?_
    exact hj10 M
  · skip
    refine r_aload_n (pc' := 14) hx (hd 8) rfl 0 rfl rfl ?_
    refine r_get (pc' := 17) (v := .ref (t + 2)) hx (hd 9) fl_12_13 ht rfl (by decide) rfl ?_
    have h11 := hL.1 _ _ _ ht 3 2 20 5594 rfl
    refine r_bipush (pc' := 19) (v := 70) hx (hd 10) (by decide) rfl ?_
    refine r_iload_n (pc' := 20) hx (hd 11) rfl 1 rfl rfl ?_
    refine r_iadd (pc' := 21) hx (hd 12) rfl ?_
    refine r_gd (fun h12 => ?_)
    refine r_iald (pc' := 22) (k := ix (70 + p1)) hx (hd 13) h11 h12 rfl rfl ?_
    refine r_if_ne (tgt := 55) (pc' := 25) hx (hd 14) (by decide) (fun _ => ?_) rfl (fun _ => ?_)
    · skip
      refine r_sub [] rfl ?_
      exact hj10 M
    · skip
      refine r_aload_n (pc' := 26) hx (hd 15) rfl 0 rfl rfl ?_
      refine r_iload_n (pc' := 27) hx (hd 16) rfl 1 rfl rfl ?_
      refine r_callVI (pc' := 30) (As := [.int p1]) (rest := []) hx (hd 17) md_X12_valueOf mi_X12_valueOf ms_X12_valueOf ml_12_221 (cX12_valueOf (xl x) w hL t ht p1 M) ht rfl (by decide) ⟨Nat.le_of_ble_eq_true rfl, Nat.le_of_ble_eq_true rfl⟩ rfl rfl (Nat.le_of_ble_eq_true rfl) (fun r14 => .int r14 :: []) (fun _ => rfl) rfl (fun r14 M13 => ?_)
      refine r_aload_n (pc' := 31) hx (hd 18) rfl 0 rfl rfl ?_
      refine r_get (pc' := 34) (v := .ref (t + 2)) hx (hd 19) fl_12_13 ht rfl (by decide) rfl ?_
      have h15 := hL.1 _ _ _ ht 3 2 20 5594 rfl
      refine r_bipush (pc' := 36) (v := 12) hx (hd 20) (by decide) rfl ?_
      refine r_iald (pc' := 37) (k := 12) hx (hd 21) h15 (by decide) (by decide) rfl ?_
      refine r_iadd (pc' := 38) hx (hd 22) rfl ?_
      refine r_bipush (pc' := 40) (v := 31) hx (hd 23) (by decide) rfl ?_
      refine r_icmp_gt (tgt := 55) (pc' := 43) hx (hd 24) (by decide) (fun _ => ?_) rfl (fun _ => ?_)
      · skip
        refine r_sub [] rfl ?_
        exact hj10 M13
      · skip
        refine r_aload_n (pc' := 44) hx (hd 25) rfl 0 rfl rfl ?_
        refine r_iload_n (pc' := 45) hx (hd 26) rfl 1 rfl rfl ?_
        refine r_callVI (pc' := 48) (As := [.int p1]) (rest := []) hx (hd 27) md_X12_isBarred mi_X12_isBarred ms_X12_isBarred ml_12_224 (cX12_isBarred (xl x) w hL t ht p1 M13) ht rfl (by decide) ⟨Nat.le_of_ble_eq_true rfl, Nat.le_of_ble_eq_true rfl⟩ rfl rfl (Nat.le_of_ble_eq_true rfl) (fun r17 => .int r17 :: []) (fun _ => rfl) rfl (fun r17 M16 => ?_)
        refine r_if_ne (tgt := 55) (pc' := 51) hx (hd 28) (by decide) (fun _ => ?_) rfl (fun _ => ?_)
        · skip
          refine r_sub [] rfl ?_
          exact hj10 M16
        · skip
          refine r_iconst (pc' := 52) (v := 1) hx (hd 29) (by decide) rfl ?_
          refine r_goto (tgt := 56) hx (hd 30) (by decide) ?_
          refine r_sub [] rfl ?_
          exact hj6 1 M16
abbrev yX12_canAny : MethodName := ({ cls := "CribbageRoomModel", name := "canAny", desc := "(I)Z" } : Jvm.MethodName)
def tbX12_canAny : List (Nat × Instr × Nat) := [(0, .iconst 0, 1), (1, .istore_n 2, 1), (2, .iconst 0, 1), (3, .istore_n 3, 1), (4, .iload_n 3, 1), (5, .bipush 52, 2), (7, .if_icmp .ge 20, 3), (10, .iload_n 2, 1), (11, .ifCond .ne 16, 3), (14, .aload_n 0, 1), (15, .iload_n 3, 1), (16, .iload_n 1, 1), (17, .invokevirtual 509, 3), (20, .istore_n 2, 1), (21, .iinc 3 1, 3), (24, .goto (-20), 3), (27, .iload_n 2, 1), (28, .ireturn, 1)]
theorem dX12_canAny : ∀ q ∈ tbX12_canAny, decode prog_14_method_83_code q.1 = .ok q.2 := by decide +kernel
set_option maxRecDepth 20000 in
theorem cX12_canAny (l : Launch) (w : WX) (hL : Lay w) (t : Nat) (ht : Wat w t 12 0) (p1 : Int32) (M : Mem) : Ct l w yX12_canAny prog_14_method_83_code 4 (Option.some FieldType.boolean) 6 147 evIM emM [.ref t, .int p1] M (FX12_canAny t p1 M) := by
  refine ct_of (by decide) (Nat.le_of_ble_eq_true rfl) (fun x hl hx hb hz => ?_)
  subst hl
  have hd : ∀ i, DAt (xc x).code (tbX12_canAny[i]?) := fun i => by rw [hb]; exact dat_of dX12_canAny i
  show C x w (Qn x w evIM emM) 4 0 [(0, .ref t), (1, .int p1)] [] M (FX12_canAny t p1 M)
  unfold FX12_canAny
  refine r_iconst (pc' := 1) (v := 0) hx (hd 0) (by decide) rfl ?_
  refine r_istore_n (pc' := 2) (L' := [(2, .int 0), (0, .ref t), (1, .int p1)]) hx (hd 1) rfl (by decide) rfl rfl ?_
  refine r_iconst (pc' := 3) (v := 0) hx (hd 2) (by decide) rfl ?_
  refine r_istore_n (pc' := 4) (L' := [(3, .int 0), (2, .int 0), (0, .ref t), (1, .int p1)]) hx (hd 3) rfl (by decide) rfl rfl ?_
  refine r_sub [2, 3, 1, 0] rfl ?_
  refine r_wl3 (fun v1 v2 M3 => [(0, .ref t), (1, .int p1), (2, .int v1), (3, .int v2)]) (fun v1 v2 M3 => []) (fun v1 v2 M3 => M3) (fun v1 v2 M3 rec4 ih5 => ?_) fuel 0 0 M
  refine r_iload_n (pc' := 5) hx (hd 4) rfl 3 rfl rfl ?_
  refine r_bipush (pc' := 7) (v := 52) hx (hd 5) (by decide) rfl ?_
  refine r_jn0 27 ([(2, .int v1)]) ([]) (M3) (?_) (fun j6 hj7 => ?_)
  · skip
    refine r_iload_n (pc' := 28) hx (hd 16) rfl 0 rfl rfl ?_
    refine r_gd (fun h8 => ?_)
    exact r_zret hx (hd 17) h8 rfl rfl hz
  refine r_icmp_ge (tgt := 27) (pc' := 10) hx (hd 6) (by decide) (fun _ => ?_) rfl (fun _ => ?_)
  · skip
    refine r_sub [2] rfl ?_
    exact hj7
  · skip
    refine r_iload_n (pc' := 11) hx (hd 7) rfl 2 rfl rfl ?_
    refine r_if_ne (tgt := 27) (pc' := 14) hx (hd 8) (by decide) (fun _ => ?_) rfl (fun _ => ?_)
    · skip
      refine r_sub [2] rfl ?_
      exact hj7
    · skip
      refine r_aload_n (pc' := 15) hx (hd 9) rfl 0 rfl rfl ?_
      refine r_iload_n (pc' := 16) hx (hd 10) rfl 3 rfl rfl ?_
      refine r_iload_n (pc' := 17) hx (hd 11) rfl 1 rfl rfl ?_
      refine r_callVI (pc' := 20) (As := [.int v2, .int p1]) (rest := []) hx (hd 12) md_X12_canPlay mi_X12_canPlay ms_X12_canPlay ml_12_509 (cX12_canPlay (xl x) w hL t ht v2 p1 M3) ht rfl (by decide) ⟨Nat.le_of_ble_eq_true rfl, Nat.le_of_ble_eq_true rfl⟩ rfl rfl (Nat.le_of_ble_eq_true rfl) (fun r10 => .int r10 :: []) (fun _ => rfl) rfl (fun r10 M9 => ?_)
      refine r_istore_n (pc' := 21) (L' := [(2, .int r10), (0, .ref t), (1, .int p1), (3, .int v2)]) hx (hd 13) rfl (by decide) rfl rfl ?_
      refine r_iinc (pc' := 24) (v := 1) hx (hd 14) 3 rfl (by decide) (by decide) (fun v11 => [(3, .int v11), (2, .int r10), (0, .ref t), (1, .int p1)]) (fun _ => rfl) rfl (fun v11 => ?_)
      refine r_goto (tgt := 4) hx (hd 15) (by decide) ?_
      refine r_sub [2, 3, 1, 0] rfl ?_
      exact ih5 r10 v11 M9
abbrev yX12_turnTo : MethodName := ({ cls := "CribbageRoomModel", name := "turnTo", desc := "(II)V" } : Jvm.MethodName)
def tbX12_turnTo : List (Nat × Instr × Nat) := [(0, .aload_n 0, 1), (1, .getfield 13, 3), (4, .bipush 14, 2), (6, .aload_n 0, 1), (7, .iload_n 1, 1), (8, .invokevirtual 512, 3), (11, .ifCond .eq 7, 3), (14, .iload_n 1, 1), (15, .goto 16, 3), (18, .aload_n 0, 1), (19, .iload_n 2, 1), (20, .invokevirtual 512, 3), (23, .ifCond .eq 7, 3), (26, .iload_n 2, 1), (27, .goto 4, 3), (30, .iconst (-1), 1), (31, .iastore, 1), (32, .return_, 1)]
theorem dX12_turnTo : ∀ q ∈ tbX12_turnTo, decode prog_14_method_84_code q.1 = .ok q.2 := by decide +kernel
set_option maxRecDepth 20000 in
theorem cX12_turnTo (l : Launch) (w : WX) (hL : Lay w) (t : Nat) (ht : Wat w t 12 0) (p1 : Int32) (p2 : Int32) (M : Mem) : Ct l w yX12_turnTo prog_14_method_84_code 3 (Option.none : Option FieldType) 7 170 evU emU [.ref t, .int p1, .int p2] M (FX12_turnTo t p1 p2 M) := by
  refine ct_of (by decide) (Nat.le_of_ble_eq_true rfl) (fun x hl hx hb hz => ?_)
  subst hl
  have hd : ∀ i, DAt (xc x).code (tbX12_turnTo[i]?) := fun i => by rw [hb]; exact dat_of dX12_turnTo i
  show C x w (Qn x w evU emU) 3 0 [(0, .ref t), (1, .int p1), (2, .int p2)] [] M (FX12_turnTo t p1 p2 M)
  unfold FX12_turnTo
  refine r_aload_n (pc' := 1) hx (hd 0) rfl 0 rfl rfl ?_
  refine r_get (pc' := 4) (v := .ref (t + 2)) hx (hd 1) fl_12_13 ht rfl (by decide) rfl ?_
  have h1 := hL.1 _ _ _ ht 3 2 20 5594 rfl
  refine r_bipush (pc' := 6) (v := 14) hx (hd 2) (by decide) rfl ?_
  refine r_aload_n (pc' := 7) hx (hd 3) rfl 0 rfl rfl ?_
  refine r_iload_n (pc' := 8) hx (hd 4) rfl 1 rfl rfl ?_
  refine r_callVI (pc' := 11) (As := [.int p1]) (rest := [.int 14, .ref (t + 2)]) hx (hd 5) md_X12_canAny mi_X12_canAny ms_X12_canAny ml_12_512 (cX12_canAny (xl x) w hL t ht p1 M) ht rfl (by decide) ⟨Nat.le_of_ble_eq_true rfl, Nat.le_of_ble_eq_true rfl⟩ rfl rfl (Nat.le_of_ble_eq_true rfl) (fun r3 => .int r3 :: [.int 14, .ref (t + 2)]) (fun _ => rfl) rfl (fun r3 M2 => ?_)
  refine r_jn2 31 (fun v4 M5 => []) (fun v4 M5 => [.int v4, .int 14, .ref (t + 2)]) (fun v4 M5 => M5) (fun v4 M5 => ?_) (fun j6 hj7 => ?_)
  · skip
    refine r_iast (pc' := 32) (k := 14) hx (hd 16) h1 (by decide) (by decide) rfl (fun M8 => ?_)
    exact r_vret hx (hd 17) rfl rfl hz
  refine r_if_eq (tgt := 18) (pc' := 14) hx (hd 6) (by decide) (fun _ => ?_) rfl (fun _ => ?_)
  · skip
    refine r_aload_n (pc' := 19) hx (hd 9) rfl 0 rfl rfl ?_
    refine r_iload_n (pc' := 20) hx (hd 10) rfl 2 rfl rfl ?_
    refine r_callVI (pc' := 23) (As := [.int p2]) (rest := [.int 14, .ref (t + 2)]) hx (hd 11) md_X12_canAny mi_X12_canAny ms_X12_canAny ml_12_512 (cX12_canAny (xl x) w hL t ht p2 M2) ht rfl (by decide) ⟨Nat.le_of_ble_eq_true rfl, Nat.le_of_ble_eq_true rfl⟩ rfl rfl (Nat.le_of_ble_eq_true rfl) (fun r10 => .int r10 :: [.int 14, .ref (t + 2)]) (fun _ => rfl) rfl (fun r10 M9 => ?_)
    refine r_if_eq (tgt := 30) (pc' := 26) hx (hd 12) (by decide) (fun _ => ?_) rfl (fun _ => ?_)
    · skip
      refine r_iconst (pc' := 31) (v := (-1)) hx (hd 15) (by decide) rfl ?_
      refine r_sub [] rfl ?_
      exact hj7 (-1) M9
    · skip
      refine r_iload_n (pc' := 27) hx (hd 13) rfl 2 rfl rfl ?_
      refine r_goto (tgt := 31) hx (hd 14) (by decide) ?_
      refine r_sub [] rfl ?_
      exact hj7 p2 M9
  · skip
    refine r_iload_n (pc' := 15) hx (hd 7) rfl 1 rfl rfl ?_
    refine r_goto (tgt := 31) hx (hd 8) (by decide) ?_
    refine r_sub [] rfl ?_
    exact hj7 p1 M2
abbrev yX12_layIt : MethodName := ({ cls := "CribbageRoomModel", name := "layIt", desc := "(I)V" } : Jvm.MethodName)
def tbX12_layIt : List (Nat × Instr × Nat) := [(0, .aload_n 0, 1), (1, .getfield 13, 3), (4, .bipush 18, 2), (6, .iload_n 1, 1), (7, .iadd, 1), (8, .iconst 2, 1), (9, .iastore, 1), (10, .aload_n 0, 1), (11, .iconst 0, 1), (12, .invokevirtual 232, 3), (15, .iconst 4, 1), (16, .if_icmp .ne 105, 3), (19, .aload_n 0, 1), (20, .iconst 1, 1), (21, .invokevirtual 232, 3), (24, .iconst 4, 1), (25, .if_icmp .ne 96, 3), (28, .aload_n 0, 1), (29, .getfield 13, 3), (32, .bipush 10, 2), (34, .iaload, 1), (35, .istore_n 2, 1), (36, .aload_n 0, 1), (37, .getfield 13, 3), (40, .bipush 9, 2), (42, .iconst 2, 1), (43, .iastore, 1), (44, .aload_n 0, 1), (45, .getfield 13, 3), (48, .bipush 12, 2), (50, .iconst 0, 1), (51, .iastore, 1), (52, .aload_n 0, 1), (53, .getfield 13, 3), (56, .bipush 13, 2), (58, .iconst 0, 1), (59, .iastore, 1), (60, .aload_n 0, 1), (61, .getfield 13, 3), (64, .bipush 15, 2), (66, .iconst (-1), 1), (67, .iastore, 1), (68, .iconst 0, 1), (69, .istore_n 3, 1), (70, .iload_n 3, 1), (71, .bipush 52, 2), (73, .if_icmp .ge 19, 3), (76, .aload_n 0, 1), (77, .getfield 13, 3), (80, .bipush 70, 2), (82, .iload_n 3, 1), (83, .iadd, 1), (84, .iconst 0, 1), (85, .iastore, 1), (86, .iinc 3 1, 3), (89, .goto (-19), 3), (92, .aload_n 0, 1), (93, .getfield 13, 3), (96, .bipush 11, 2), (98, .iaload, 1), (99, .invokestatic 447, 3), (102, .bipush 10, 2), (104, .if_icmp .ne 9, 3), (107, .aload_n 0, 1), (108, .iload_n 2, 1), (109, .iconst 2, 1), (110, .invokevirtual 515, 3), (113, .aload_n 0, 1), (114, .iconst 1, 1), (115, .iload_n 2, 1), (116, .isub, 1), (117, .iload_n 2, 1), (118, .invokevirtual 518, 3), (121, .return_, 1)]
theorem dX12_layIt : ∀ q ∈ tbX12_layIt, decode prog_14_method_85_code q.1 = .ok q.2 := by decide +kernel
set_option maxRecDepth 20000 in
theorem cX12_layIt (l : Launch) (w : WX) (hL : Lay w) (t : Nat) (ht : Wat w t 12 0) (p1 : Int32) (M : Mem) : Ct l w yX12_layIt prog_14_method_85_code 4 (Option.none : Option FieldType) 8 192 evU emU [.ref t, .int p1] M (FX12_layIt t p1 M) := by
  refine ct_of (by decide) (Nat.le_of_ble_eq_true rfl) (fun x hl hx hb hz => ?_)
  subst hl
  have hd : ∀ i, DAt (xc x).code (tbX12_layIt[i]?) := fun i => by rw [hb]; exact dat_of dX12_layIt i
  show C x w (Qn x w evU emU) 4 0 [(0, .ref t), (1, .int p1)] [] M (FX12_layIt t p1 M)
  unfold FX12_layIt
  refine r_aload_n (pc' := 1) hx (hd 0) rfl 0 rfl rfl ?_
  refine r_get (pc' := 4) (v := .ref (t + 2)) hx (hd 1) fl_12_13 ht rfl (by decide) rfl ?_
  have h1 := hL.1 _ _ _ ht 3 2 20 5594 rfl
  refine r_bipush (pc' := 6) (v := 18) hx (hd 2) (by decide) rfl ?_
  refine r_iload_n (pc' := 7) hx (hd 3) rfl 1 rfl rfl ?_
  refine r_iadd (pc' := 8) hx (hd 4) rfl ?_
  refine r_iconst (pc' := 9) (v := 2) hx (hd 5) (by decide) rfl ?_
  refine r_gd (fun h3 => ?_)
  refine r_iast (pc' := 10) (k := ix (18 + p1)) hx (hd 6) h1 h3 rfl rfl (fun M2 => ?_)
  refine r_aload_n (pc' := 11) hx (hd 7) rfl 0 rfl rfl ?_
  refine r_iconst (pc' := 12) (v := 0) hx (hd 8) (by decide) rfl ?_
  refine r_callV (pc' := 15) (As := [.int 0]) (rest := []) hx (hd 9) md_X12_cardsAt mi_X12_cardsAt ms_X12_cardsAt ml_12_232 (cX12_cardsAt (xl x) w hL t ht 0 M2) ht rfl (by decide) ⟨Nat.le_of_ble_eq_true rfl, Nat.le_of_ble_eq_true rfl⟩ rfl rfl (Nat.le_of_ble_eq_true rfl) (fun r4 => .int r4 :: []) (fun _ => M2) (fun _ => ⟨rfl, rfl⟩) rfl (fun r4 _ => ?_)
  refine r_iconst (pc' := 16) (v := 4) hx (hd 10) (by decide) rfl ?_
  refine r_jn1 121 (fun M5 => []) (fun M5 => []) (fun M5 => M5) (fun M5 => ?_) (fun j6 hj7 => ?_)
  · skip
    exact r_vret hx (hd 73) rfl rfl hz
  refine r_icmp_ne (tgt := 121) (pc' := 19) hx (hd 11) (by decide) (fun _ => ?_) rfl (fun _ => ?_)
  · skip
    refine r_sub [] rfl ?_
    exact hj7 M2
  · skip
    refine r_aload_n (pc' := 20) hx (hd 12) rfl 0 rfl rfl ?_
    refine r_iconst (pc' := 21) (v := 1) hx (hd 13) (by decide) rfl ?_
    refine r_callV (pc' := 24) (As := [.int 1]) (rest := []) hx (hd 14) md_X12_cardsAt mi_X12_cardsAt ms_X12_cardsAt ml_12_232 (cX12_cardsAt (xl x) w hL t ht 1 M2) ht rfl (by decide) ⟨Nat.le_of_ble_eq_true rfl, Nat.le_of_ble_eq_true rfl⟩ rfl rfl (Nat.le_of_ble_eq_true rfl) (fun r8 => .int r8 :: []) (fun _ => M2) (fun _ => ⟨rfl, rfl⟩) rfl (fun r8 _ => ?_)
    refine r_iconst (pc' := 25) (v := 4) hx (hd 15) (by decide) rfl ?_
    refine r_icmp_ne (tgt := 121) (pc' := 28) hx (hd 16) (by decide) (fun _ => ?_) rfl (fun _ => ?_)
    · skip
      refine r_sub [] rfl ?_
      exact hj7 M2
    · skip
      refine r_aload_n (pc' := 29) hx (hd 17) rfl 0 rfl rfl ?_
      refine r_get (pc' := 32) (v := .ref (t + 2)) hx (hd 18) fl_12_13 ht rfl (by decide) rfl ?_
      have h9 := hL.1 _ _ _ ht 3 2 20 5594 rfl
      refine r_bipush (pc' := 34) (v := 10) hx (hd 19) (by decide) rfl ?_
      refine r_iald (pc' := 35) (k := 10) hx (hd 20) h9 (by decide) (by decide) rfl ?_
      refine r_nmI (fun v10 => ?_)
      refine r_istore_n (pc' := 36) (L' := [(2, .int v10), (0, .ref t), (1, .int p1)]) hx (hd 21) rfl (by decide) rfl rfl ?_
      refine r_aload_n (pc' := 37) hx (hd 22) rfl 1 rfl rfl ?_
      refine r_get (pc' := 40) (v := .ref (t + 2)) hx (hd 23) fl_12_13 ht rfl (by decide) rfl ?_
      have h11 := hL.1 _ _ _ ht 3 2 20 5594 rfl
      refine r_bipush (pc' := 42) (v := 9) hx (hd 24) (by decide) rfl ?_
      refine r_iconst (pc' := 43) (v := 2) hx (hd 25) (by decide) rfl ?_
      refine r_iast (pc' := 44) (k := 9) hx (hd 26) h11 (by decide) (by decide) rfl (fun M12 => ?_)
      refine r_aload_n (pc' := 45) hx (hd 27) rfl 1 rfl rfl ?_
      refine r_get (pc' := 48) (v := .ref (t + 2)) hx (hd 28) fl_12_13 ht rfl (by decide) rfl ?_
      have h13 := hL.1 _ _ _ ht 3 2 20 5594 rfl
      refine r_bipush (pc' := 50) (v := 12) hx (hd 29) (by decide) rfl ?_
      refine r_iconst (pc' := 51) (v := 0) hx (hd 30) (by decide) rfl ?_
      refine r_iast (pc' := 52) (k := 12) hx (hd 31) h13 (by decide) (by decide) rfl (fun M14 => ?_)
      refine r_aload_n (pc' := 53) hx (hd 32) rfl 1 rfl rfl ?_
      refine r_get (pc' := 56) (v := .ref (t + 2)) hx (hd 33) fl_12_13 ht rfl (by decide) rfl ?_
      have h15 := hL.1 _ _ _ ht 3 2 20 5594 rfl
      refine r_bipush (pc' := 58) (v := 13) hx (hd 34) (by decide) rfl ?_
      refine r_iconst (pc' := 59) (v := 0) hx (hd 35) (by decide) rfl ?_
      refine r_iast (pc' := 60) (k := 13) hx (hd 36) h15 (by decide) (by decide) rfl (fun M16 => ?_)
      refine r_aload_n (pc' := 61) hx (hd 37) rfl 1 rfl rfl ?_
      refine r_get (pc' := 64) (v := .ref (t + 2)) hx (hd 38) fl_12_13 ht rfl (by decide) rfl ?_
      have h17 := hL.1 _ _ _ ht 3 2 20 5594 rfl
      refine r_bipush (pc' := 66) (v := 15) hx (hd 39) (by decide) rfl ?_
      refine r_iconst (pc' := 67) (v := (-1)) hx (hd 40) (by decide) rfl ?_
      refine r_iast (pc' := 68) (k := 15) hx (hd 41) h17 (by decide) (by decide) rfl (fun M18 => ?_)
      refine r_iconst (pc' := 69) (v := 0) hx (hd 42) (by decide) rfl ?_
      refine r_istore_n (pc' := 70) (L' := [(3, .int 0), (2, .int v10), (0, .ref t), (1, .int p1)]) hx (hd 43) rfl (by decide) rfl rfl ?_
      refine r_sub [2, 1, 0] rfl ?_
      refine r_wl2 (fun v19 M20 => [(0, .ref t), (2, .int v10), (3, .int v19)]) (fun v19 M20 => []) (fun v19 M20 => M20) (fun v19 M20 rec21 ih22 => ?_) fuel 0 M18
      refine r_iload_n (pc' := 71) hx (hd 44) rfl 2 rfl rfl ?_
      refine r_bipush (pc' := 73) (v := 52) hx (hd 45) (by decide) rfl ?_
      refine r_icmp_ge (tgt := 92) (pc' := 76) hx (hd 46) (by decide) (fun _ => ?_) rfl (fun _ => ?_)
      · skip
        refine r_aload_n (pc' := 93) hx (hd 56) rfl 0 rfl rfl ?_
        refine r_get (pc' := 96) (v := .ref (t + 2)) hx (hd 57) fl_12_13 ht rfl (by decide) rfl ?_
        have h23 := hL.1 _ _ _ ht 3 2 20 5594 rfl
        refine r_bipush (pc' := 98) (v := 11) hx (hd 58) (by decide) rfl ?_
        refine r_iald (pc' := 99) (k := 11) hx (hd 59) h23 (by decide) (by decide) rfl ?_
        refine r_callS (pc' := 102) (As := [.int (mI M20 (t + 2) 11)]) (rest := []) hx (hd 60) md_X12_rankOf mst_X12_rankOf ml_12_447 (cX12_rankOf (xl x) w hL (mI M20 (t + 2) 11) M20) ⟨Nat.le_of_ble_eq_true rfl, Nat.le_of_ble_eq_true rfl⟩ rfl rfl (Nat.le_of_ble_eq_true rfl) (fun r24 => .int r24 :: []) (fun _ => M20) (fun _ => ⟨rfl, rfl⟩) rfl (fun r24 _ => ?_)
        refine r_bipush (pc' := 104) (v := 10) hx (hd 61) (by decide) rfl ?_
        refine r_jn1 113 (fun M25 => [(0, .ref t), (2, .int v10)]) (fun M25 => []) (fun M25 => M25) (fun M25 => ?_) (fun j26 hj27 => ?_)
        · skip
          refine r_aload_n (pc' := 114) hx (hd 67) rfl 0 rfl rfl ?_
          refine r_iconst (pc' := 115) (v := 1) hx (hd 68) (by decide) rfl ?_
          refine r_iload_n (pc' := 116) hx (hd 69) rfl 1 rfl rfl ?_
          refine r_isub (pc' := 117) hx (hd 70) rfl ?_
          refine r_iload_n (pc' := 118) hx (hd 71) rfl 1 rfl rfl ?_
          refine r_callVU (pc' := 121) (As := [.int (1 - v10), .int v10]) (rest := []) hx (hd 72) md_X12_turnTo mi_X12_turnTo ms_X12_turnTo ml_12_518 (cX12_turnTo (xl x) w hL t ht (1 - v10) v10 M25) ht rfl (by decide) ⟨Nat.le_of_ble_eq_true rfl, Nat.le_of_ble_eq_true rfl⟩ rfl rfl (Nat.le_of_ble_eq_true rfl) rfl (fun M28 => ?_)
          refine r_sub [] rfl ?_
          exact hj7 M28
        refine r_icmp_ne (tgt := 113) (pc' := 107) hx (hd 62) (by decide) (fun _ => ?_) rfl (fun _ => ?_)
        · skip
          refine r_sub [0, 1] rfl ?_
          exact hj27 M20
        · skip
          refine r_aload_n (pc' := 108) hx (hd 63) rfl 0 rfl rfl ?_
          refine r_iload_n (pc' := 109) hx (hd 64) rfl 1 rfl rfl ?_
          refine r_iconst (pc' := 110) (v := 2) hx (hd 65) (by decide) rfl ?_
          refine r_callVU (pc' := 113) (As := [.int v10, .int 2]) (rest := []) hx (hd 66) md_X12_peg mi_X12_peg ms_X12_peg ml_12_515 (cX12_peg (xl x) w hL t ht v10 2 M20) ht rfl (by decide) ⟨Nat.le_of_ble_eq_true rfl, Nat.le_of_ble_eq_true rfl⟩ rfl rfl (Nat.le_of_ble_eq_true rfl) rfl (fun M29 => ?_)
          refine r_sub [0, 1] rfl ?_
          exact hj27 M29
      · skip
        refine r_aload_n (pc' := 77) hx (hd 47) rfl 0 rfl rfl ?_
        refine r_get (pc' := 80) (v := .ref (t + 2)) hx (hd 48) fl_12_13 ht rfl (by decide) rfl ?_
        have h30 := hL.1 _ _ _ ht 3 2 20 5594 rfl
        refine r_bipush (pc' := 82) (v := 70) hx (hd 49) (by decide) rfl ?_
        refine r_iload_n (pc' := 83) hx (hd 50) rfl 2 rfl rfl ?_
        refine r_iadd (pc' := 84) hx (hd 51) rfl ?_
        refine r_iconst (pc' := 85) (v := 0) hx (hd 52) (by decide) rfl ?_
        refine r_gd (fun h32 => ?_)
        refine r_iast (pc' := 86) (k := ix (70 + v19)) hx (hd 53) h30 h32 rfl rfl (fun M31 => ?_)
        refine r_iinc (pc' := 89) (v := 1) hx (hd 54) 2 rfl (by decide) (by decide) (fun v33 => [(3, .int v33), (0, .ref t), (2, .int v10)]) (fun _ => rfl) rfl (fun v33 => ?_)
        refine r_goto (tgt := 70) hx (hd 55) (by decide) ?_
        refine r_sub [1, 2, 0] rfl ?_
        exact ih22 v33 M31
abbrev yX12_layNow : MethodName := ({ cls := "CribbageRoomModel", name := "layNow", desc := "(II)I" } : Jvm.MethodName)
def tbX12_layNow : List (Nat × Instr × Nat) := [(0, .iload_n 1, 1), (1, .invokestatic 217, 3), (4, .ifCond .eq 10, 3), (7, .iload_n 2, 1), (8, .invokestatic 227, 3), (11, .ifCond .ne 5, 3), (14, .iconst (-1), 1), (15, .ireturn, 1), (16, .aload_n 0, 1), (17, .getfield 13, 3), (20, .bipush 9, 2), (22, .iaload, 1), (23, .iconst 1, 1), (24, .if_icmp .ne 25, 3), (27, .aload_n 0, 1), (28, .getfield 13, 3), (31, .bipush 18, 2), (33, .iload_n 1, 1), (34, .iadd, 1), (35, .iaload, 1), (36, .iload_n 2, 1), (37, .if_icmp .ne 12, 3), (40, .aload_n 0, 1), (41, .iload_n 2, 1), (42, .invokevirtual 232, 3), (45, .iconst 5, 1), (46, .if_icmp .ge 6, 3), (49, .bipush (-3), 2), (51, .ireturn, 1), (52, .aload_n 0, 1), (53, .iconst 1, 1), (54, .invokevirtual 500, 3), (57, .aload_n 0, 1), (58, .iload_n 1, 1), (59, .invokevirtual 521, 3), (62, .aload_n 0, 1), (63, .iconst 2, 1), (64, .invokevirtual 232, 3), (67, .ireturn, 1)]
theorem dX12_layNow : ∀ q ∈ tbX12_layNow, decode prog_14_method_86_code q.1 = .ok q.2 := by decide +kernel
set_option maxRecDepth 20000 in
theorem cX12_layNow (l : Launch) (w : WX) (hL : Lay w) (t : Nat) (ht : Wat w t 12 0) (p1 : Int32) (p2 : Int32) (M : Mem) : Ct l w yX12_layNow prog_14_method_86_code 3 (Option.some FieldType.int) 9 215 evIM emM [.ref t, .int p1, .int p2] M (FX12_layNow t p1 p2 M) := by
  refine ct_of (by decide) (Nat.le_of_ble_eq_true rfl) (fun x hl hx hb hz => ?_)
  subst hl
  have hd : ∀ i, DAt (xc x).code (tbX12_layNow[i]?) := fun i => by rw [hb]; exact dat_of dX12_layNow i
  show C x w (Qn x w evIM emM) 3 0 [(0, .ref t), (1, .int p1), (2, .int p2)] [] M (FX12_layNow t p1 p2 M)
  unfold FX12_layNow
  refine r_iload_n (pc' := 1) hx (hd 0) rfl 1 rfl rfl ?_
  refine r_callS (pc' := 4) (As := [.int p1]) (rest := []) hx (hd 1) md_X12_isCard mst_X12_isCard ml_12_217 (cX12_isCard (xl x) w hL p1 M) ⟨Nat.le_of_ble_eq_true rfl, Nat.le_of_ble_eq_true rfl⟩ rfl rfl (Nat.le_of_ble_eq_true rfl) (fun r1 => .int r1 :: []) (fun _ => M) (fun _ => ⟨rfl, rfl⟩) rfl (fun r1 _ => ?_)
  refine r_jn0 14 ([]) ([]) (M) (?_) (fun j2 hj3 => ?_)
  · skip
    refine r_iconst (pc' := 15) (v := (-1)) hx (hd 6) (by decide) rfl ?_
    exact r_iret hx (hd 7) rfl rfl hz
  refine r_if_eq (tgt := 14) (pc' := 7) hx (hd 2) (by decide) (fun _ => ?_) rfl (fun _ => ?_)
  · skip
    refine r_sub [] rfl ?_
    exact hj3
  · skip
    refine r_iload_n (pc' := 8) hx (hd 3) rfl 2 rfl rfl ?_
    refine r_callS (pc' := 11) (As := [.int p2]) (rest := []) hx (hd 4) md_X12_isPlayer mst_X12_isPlayer ml_12_227 (cX12_isPlayer (xl x) w hL p2 M) ⟨Nat.le_of_ble_eq_true rfl, Nat.le_of_ble_eq_true rfl⟩ rfl rfl (Nat.le_of_ble_eq_true rfl) (fun r4 => .int r4 :: []) (fun _ => M) (fun _ => ⟨rfl, rfl⟩) rfl (fun r4 _ => ?_)
    refine r_if_ne (tgt := 16) (pc' := 14) hx (hd 5) (by decide) (fun _ => ?_) rfl (fun _ => ?_)
    · skip
      refine r_aload_n (pc' := 17) hx (hd 8) rfl 0 rfl rfl ?_
      refine r_get (pc' := 20) (v := .ref (t + 2)) hx (hd 9) fl_12_13 ht rfl (by decide) rfl ?_
      have h5 := hL.1 _ _ _ ht 3 2 20 5594 rfl
      refine r_bipush (pc' := 22) (v := 9) hx (hd 10) (by decide) rfl ?_
      refine r_iald (pc' := 23) (k := 9) hx (hd 11) h5 (by decide) (by decide) rfl ?_
      refine r_iconst (pc' := 24) (v := 1) hx (hd 12) (by decide) rfl ?_
      refine r_jn0 49 ([]) ([]) (M) (?_) (fun j6 hj7 => ?_)
      · skip
        refine r_bipush (pc' := 51) (v := (-3)) hx (hd 27) (by decide) rfl ?_
        exact r_iret hx (hd 28) rfl rfl hz
      refine r_icmp_ne (tgt := 49) (pc' := 27) hx (hd 13) (by decide) (fun _ => ?_) rfl (fun _ => ?_)
      · skip
        refine r_sub [] rfl ?_
        exact hj7
      · skip
        refine r_aload_n (pc' := 28) hx (hd 14) rfl 0 rfl rfl ?_
        refine r_get (pc' := 31) (v := .ref (t + 2)) hx (hd 15) fl_12_13 ht rfl (by decide) rfl ?_
        have h8 := hL.1 _ _ _ ht 3 2 20 5594 rfl
        refine r_bipush (pc' := 33) (v := 18) hx (hd 16) (by decide) rfl ?_
        refine r_iload_n (pc' := 34) hx (hd 17) rfl 1 rfl rfl ?_
        refine r_iadd (pc' := 35) hx (hd 18) rfl ?_
        refine r_gd (fun h9 => ?_)
        refine r_iald (pc' := 36) (k := ix (18 + p1)) hx (hd 19) h8 h9 rfl rfl ?_
        refine r_iload_n (pc' := 37) hx (hd 20) rfl 2 rfl rfl ?_
        refine r_icmp_ne (tgt := 49) (pc' := 40) hx (hd 21) (by decide) (fun _ => ?_) rfl (fun _ => ?_)
        · skip
          refine r_sub [] rfl ?_
          exact hj7
        · skip
          refine r_aload_n (pc' := 41) hx (hd 22) rfl 0 rfl rfl ?_
          refine r_iload_n (pc' := 42) hx (hd 23) rfl 2 rfl rfl ?_
          refine r_callV (pc' := 45) (As := [.int p2]) (rest := []) hx (hd 24) md_X12_cardsAt mi_X12_cardsAt ms_X12_cardsAt ml_12_232 (cX12_cardsAt (xl x) w hL t ht p2 M) ht rfl (by decide) ⟨Nat.le_of_ble_eq_true rfl, Nat.le_of_ble_eq_true rfl⟩ rfl rfl (Nat.le_of_ble_eq_true rfl) (fun r10 => .int r10 :: []) (fun _ => M) (fun _ => ⟨rfl, rfl⟩) rfl (fun r10 _ => ?_)
          refine r_iconst (pc' := 46) (v := 5) hx (hd 25) (by decide) rfl ?_
          refine r_icmp_ge (tgt := 52) (pc' := 49) hx (hd 26) (by decide) (fun _ => ?_) rfl (fun _ => ?_)
          · skip
            refine r_aload_n (pc' := 53) hx (hd 29) rfl 0 rfl rfl ?_
            refine r_iconst (pc' := 54) (v := 1) hx (hd 30) (by decide) rfl ?_
            refine r_callVU (pc' := 57) (As := [.int 1]) (rest := []) hx (hd 31) md_X12_remember mi_X12_remember ms_X12_remember ml_12_500 (cX12_remember (xl x) w hL t ht 1 M) ht rfl (by decide) ⟨Nat.le_of_ble_eq_true rfl, Nat.le_of_ble_eq_true rfl⟩ rfl rfl (Nat.le_of_ble_eq_true rfl) rfl (fun M11 => ?_)
            refine r_aload_n (pc' := 58) hx (hd 32) rfl 0 rfl rfl ?_
            refine r_iload_n (pc' := 59) hx (hd 33) rfl 1 rfl rfl ?_
            refine r_callVU (pc' := 62) (As := [.int p1]) (rest := []) hx (hd 34) md_X12_layIt mi_X12_layIt ms_X12_layIt ml_12_521 (cX12_layIt (xl x) w hL t ht p1 M11) ht rfl (by decide) ⟨Nat.le_of_ble_eq_true rfl, Nat.le_of_ble_eq_true rfl⟩ rfl rfl (Nat.le_of_ble_eq_true rfl) rfl (fun M12 => ?_)
            refine r_aload_n (pc' := 63) hx (hd 35) rfl 0 rfl rfl ?_
            refine r_iconst (pc' := 64) (v := 2) hx (hd 36) (by decide) rfl ?_
            refine r_callV (pc' := 67) (As := [.int 2]) (rest := []) hx (hd 37) md_X12_cardsAt mi_X12_cardsAt ms_X12_cardsAt ml_12_232 (cX12_cardsAt (xl x) w hL t ht 2 M12) ht rfl (by decide) ⟨Nat.le_of_ble_eq_true rfl, Nat.le_of_ble_eq_true rfl⟩ rfl rfl (Nat.le_of_ble_eq_true rfl) (fun r13 => .int r13 :: []) (fun _ => M12) (fun _ => ⟨rfl, rfl⟩) rfl (fun r13 _ => ?_)
            exact r_iret hx (hd 38) rfl rfl hz
          · skip
            refine r_sub [] rfl ?_
            exact hj7
    · skip
      refine r_sub [] rfl ?_
      exact hj3
abbrev yX12_lay : MethodName := ({ cls := "CribbageRoomModel", name := "lay", desc := "(II)I" } : Jvm.MethodName)
def tbX12_lay : List (Nat × Instr × Nat) := [(0, .aload_n 0, 1), (1, .iconst 0, 1), (2, .putfield 188, 3), (5, .aload_n 0, 1), (6, .aload_n 0, 1), (7, .iload_n 1, 1), (8, .iload_n 2, 1), (9, .invokevirtual 524, 3), (12, .invokevirtual 197, 3), (15, .ireturn, 1)]
theorem dX12_lay : ∀ q ∈ tbX12_lay, decode prog_14_method_87_code q.1 = .ok q.2 := by decide +kernel
set_option maxRecDepth 20000 in
theorem cX12_lay (l : Launch) (w : WX) (hL : Lay w) (t : Nat) (ht : Wat w t 12 0) (p1 : Int32) (p2 : Int32) (M : Mem) : Ct l w yX12_lay prog_14_method_87_code 3 (Option.some FieldType.int) 10 237 evIM emM [.ref t, .int p1, .int p2] M (FX12_lay t p1 p2 M) := by
  refine ct_of (by decide) (Nat.le_of_ble_eq_true rfl) (fun x hl hx hb hz => ?_)
  subst hl
  have hd : ∀ i, DAt (xc x).code (tbX12_lay[i]?) := fun i => by rw [hb]; exact dat_of dX12_lay i
  show C x w (Qn x w evIM emM) 3 0 [(0, .ref t), (1, .int p1), (2, .int p2)] [] M (FX12_lay t p1 p2 M)
  unfold FX12_lay
  refine r_aload_n (pc' := 1) hx (hd 0) rfl 0 rfl rfl ?_
  refine r_iconst (pc' := 2) (v := 0) hx (hd 1) (by decide) rfl ?_
  refine r_putI (pc' := 5) hx (hd 2) fp_12_188 ht rfl (by decide) rfl (fun M1 => ?_)
  refine r_aload_n (pc' := 6) hx (hd 3) rfl 0 rfl rfl ?_
  refine r_aload_n (pc' := 7) hx (hd 4) rfl 0 rfl rfl ?_
  refine r_iload_n (pc' := 8) hx (hd 5) rfl 1 rfl rfl ?_
  refine r_iload_n (pc' := 9) hx (hd 6) rfl 2 rfl rfl ?_
  refine r_callVI (pc' := 12) (As := [.int p1, .int p2]) (rest := [.ref t]) hx (hd 7) md_X12_layNow mi_X12_layNow ms_X12_layNow ml_12_524 (cX12_layNow (xl x) w hL t ht p1 p2 M1) ht rfl (by decide) ⟨Nat.le_of_ble_eq_true rfl, Nat.le_of_ble_eq_true rfl⟩ rfl rfl (Nat.le_of_ble_eq_true rfl) (fun r3 => .int r3 :: [.ref t]) (fun _ => rfl) rfl (fun r3 M2 => ?_)
  refine r_callVI (pc' := 15) (As := [.int r3]) (rest := []) hx (hd 8) md_X12_tell mi_X12_tell ms_X12_tell ml_12_197 (cX12_tell (xl x) w hL t ht r3 M2) ht rfl (by decide) ⟨Nat.le_of_ble_eq_true rfl, Nat.le_of_ble_eq_true rfl⟩ rfl rfl (Nat.le_of_ble_eq_true rfl) (fun r5 => .int r5 :: []) (fun _ => rfl) rfl (fun r5 M4 => ?_)
  exact r_iret hx (hd 9) rfl rfl hz
abbrev yX12_countsAs : MethodName := ({ cls := "CribbageRoomModel", name := "countsAs", desc := "(IIIIII)I" } : Jvm.MethodName)
def tbX12_countsAs : List (Nat × Instr × Nat) := [(0, .aload_n 0, 1), (1, .iload_n 1, 1), (2, .iload_n 2, 1), (3, .iload_n 3, 1), (4, .iload 4, 2), (6, .iload 5, 2), (8, .iload 6, 2), (10, .i2l, 1), (11, .invokevirtual 450, 3), (14, .iconst 0, 1), (15, .bipush 99, 2), (17, .invokestatic 454, 3), (20, .ireturn, 1)]
theorem dX12_countsAs : ∀ q ∈ tbX12_countsAs, decode prog_14_method_67_code q.1 = .ok q.2 := by decide +kernel
set_option maxRecDepth 20000 in
theorem cX12_countsAs (l : Launch) (w : WX) (hL : Lay w) (t : Nat) (ht : Wat w t 12 0) (p1 : Int32) (p2 : Int32) (p3 : Int32) (p4 : Int32) (p5 : Int32) (p6 : Int32) (M : Mem) : Ct l w yX12_countsAs prog_14_method_67_code 7 (Option.some FieldType.int) 4 103 evIM emM [.ref t, .int p1, .int p2, .int p3, .int p4, .int p5, .int p6] M (FX12_countsAs t p1 p2 p3 p4 p5 p6 M) := by
  refine ct_of (by decide) (Nat.le_of_ble_eq_true rfl) (fun x hl hx hb hz => ?_)
  subst hl
  have hd : ∀ i, DAt (xc x).code (tbX12_countsAs[i]?) := fun i => by rw [hb]; exact dat_of dX12_countsAs i
  show C x w (Qn x w evIM emM) 7 0 [(0, .ref t), (1, .int p1), (2, .int p2), (3, .int p3), (4, .int p4), (5, .int p5), (6, .int p6)] [] M (FX12_countsAs t p1 p2 p3 p4 p5 p6 M)
  unfold FX12_countsAs
  refine r_aload_n (pc' := 1) hx (hd 0) rfl 0 rfl rfl ?_
  refine r_iload_n (pc' := 2) hx (hd 1) rfl 1 rfl rfl ?_
  refine r_iload_n (pc' := 3) hx (hd 2) rfl 2 rfl rfl ?_
  refine r_iload_n (pc' := 4) hx (hd 3) rfl 3 rfl rfl ?_
  refine r_iload (pc' := 6) hx (hd 4) 4 rfl rfl ?_
  refine r_iload (pc' := 8) hx (hd 5) 5 rfl rfl ?_
  refine r_iload (pc' := 10) hx (hd 6) 6 rfl rfl ?_
  refine r_i2l (pc' := 11) hx (hd 7) rfl ?_
  refine r_callVJ (pc' := 14) (As := [.int p1, .int p2, .int p3, .int p4, .int p5, .long p6.toInt64]) (rest := []) hx (hd 8) md_X12_tells mi_X12_tells ms_X12_tells ml_12_450 (cX12_tells (xl x) w hL t ht p1 p2 p3 p4 p5 (p6.toInt64) M) ht rfl (by decide) ⟨Nat.le_of_ble_eq_true rfl, Nat.le_of_ble_eq_true rfl⟩ rfl rfl (Nat.le_of_ble_eq_true rfl) (fun r2 => .long r2 :: []) (fun _ => rfl) rfl (fun r2 M1 => ?_)
  refine r_iconst (pc' := 15) (v := 0) hx (hd 9) (by decide) rfl ?_
  refine r_bipush (pc' := 17) (v := 99) hx (hd 10) (by decide) rfl ?_
  refine r_callS (pc' := 20) (As := [.long r2, .int 0, .int 99]) (rest := []) hx (hd 11) md_X12_bounded mst_X12_bounded ml_12_454 (cX12_bounded (xl x) w hL r2 0 99 M1) ⟨Nat.le_of_ble_eq_true rfl, Nat.le_of_ble_eq_true rfl⟩ rfl rfl (Nat.le_of_ble_eq_true rfl) (fun r3 => .int r3 :: []) (fun _ => M1) (fun _ => ⟨rfl, rfl⟩) rfl (fun r3 _ => ?_)
  exact r_iret hx (hd 12) rfl rfl hz
abbrev yX12_lineCard : MethodName := ({ cls := "CribbageRoomModel", name := "lineCard", desc := "(I)I" } : Jvm.MethodName)
def tbX12_lineCard : List (Nat × Instr × Nat) := [(0, .aload_n 0, 1), (1, .getfield 13, 3), (4, .bipush 122, 2), (6, .aload_n 0, 1), (7, .getfield 13, 3), (10, .bipush 13, 2), (12, .iaload, 1), (13, .iadd, 1), (14, .iconst 1, 1), (15, .isub, 1), (16, .iload_n 1, 1), (17, .isub, 1), (18, .iaload, 1), (19, .ireturn, 1)]
theorem dX12_lineCard : ∀ q ∈ tbX12_lineCard, decode prog_14_method_88_code q.1 = .ok q.2 := by decide +kernel
set_option maxRecDepth 20000 in
theorem cX12_lineCard (l : Launch) (w : WX) (hL : Lay w) (t : Nat) (ht : Wat w t 12 0) (p1 : Int32) (M : Mem) : Ct l w yX12_lineCard prog_14_method_88_code 2 (Option.some FieldType.int) 0 0 evI (emC M) [.ref t, .int p1] M (FX12_lineCard t p1 M) := by
  refine ct_of (by decide) (Nat.le_of_ble_eq_true rfl) (fun x hl hx hb hz => ?_)
  subst hl
  have hd : ∀ i, DAt (xc x).code (tbX12_lineCard[i]?) := fun i => by rw [hb]; exact dat_of dX12_lineCard i
  show C x w (Qn x w evI (emC M)) 2 0 [(0, .ref t), (1, .int p1)] [] M (FX12_lineCard t p1 M)
  unfold FX12_lineCard
  refine r_aload_n (pc' := 1) hx (hd 0) rfl 0 rfl rfl ?_
  refine r_get (pc' := 4) (v := .ref (t + 2)) hx (hd 1) fl_12_13 ht rfl (by decide) rfl ?_
  have h1 := hL.1 _ _ _ ht 3 2 20 5594 rfl
  refine r_bipush (pc' := 6) (v := 122) hx (hd 2) (by decide) rfl ?_
  refine r_aload_n (pc' := 7) hx (hd 3) rfl 0 rfl rfl ?_
  refine r_get (pc' := 10) (v := .ref (t + 2)) hx (hd 4) fl_12_13 ht rfl (by decide) rfl ?_
  have h2 := hL.1 _ _ _ ht 3 2 20 5594 rfl
  refine r_bipush (pc' := 12) (v := 13) hx (hd 5) (by decide) rfl ?_
  refine r_iald (pc' := 13) (k := 13) hx (hd 6) h2 (by decide) (by decide) rfl ?_
  refine r_iadd (pc' := 14) hx (hd 7) rfl ?_
  refine r_iconst (pc' := 15) (v := 1) hx (hd 8) (by decide) rfl ?_
  refine r_isub (pc' := 16) hx (hd 9) rfl ?_
  refine r_iload_n (pc' := 17) hx (hd 10) rfl 1 rfl rfl ?_
  refine r_isub (pc' := 18) hx (hd 11) rfl ?_
  refine r_gd (fun h3 => ?_)
  refine r_iald (pc' := 19) (k := ix (((122 + (mI M (t + 2) 13)) - 1) - p1)) hx (hd 12) h1 h3 rfl rfl ?_
  exact r_iret hx (hd 13) rfl rfl hz
abbrev yX12_linePairs : MethodName := ({ cls := "CribbageRoomModel", name := "linePairs", desc := "()I" } : Jvm.MethodName)
def tbX12_linePairs : List (Nat × Instr × Nat) := [(0, .iconst 1, 1), (1, .istore_n 1, 1), (2, .iload_n 1, 1), (3, .aload_n 0, 1), (4, .getfield 13, 3), (7, .bipush 13, 2), (9, .iaload, 1), (10, .if_icmp .ge 28, 3), (13, .aload_n 0, 1), (14, .iload_n 1, 1), (15, .invokevirtual 527, 3), (18, .invokestatic 447, 3), (21, .aload_n 0, 1), (22, .iconst 0, 1), (23, .invokevirtual 527, 3), (26, .invokestatic 447, 3), (29, .if_icmp .ne 9, 3), (32, .iinc 1 1, 3), (35, .goto (-33), 3), (38, .iload_n 1, 1), (39, .iconst 2, 1), (40, .if_icmp .ge 7, 3), (43, .iconst 0, 1), (44, .goto 28, 3), (47, .aload_n 0, 1), (48, .iconst 2, 1), (49, .aload_n 0, 1), (50, .iconst 0, 1), (51, .invokevirtual 527, 3), (54, .invokestatic 447, 3), (57, .iconst (-1), 1), (58, .iconst 2, 1), (59, .iconst (-1), 1), (60, .iconst 2, 1), (61, .invokevirtual 458, 3), (64, .iload_n 1, 1), (65, .iload_n 1, 1), (66, .iconst 1, 1), (67, .isub, 1), (68, .imul, 1), (69, .iconst 2, 1), (70, .idiv, 1), (71, .imul, 1), (72, .ireturn, 1)]
theorem dX12_linePairs : ∀ q ∈ tbX12_linePairs, decode prog_14_method_89_code q.1 = .ok q.2 := by decide +kernel
set_option maxRecDepth 20000 in
theorem cX12_linePairs (l : Launch) (w : WX) (hL : Lay w) (t : Nat) (ht : Wat w t 12 0) (M : Mem) : Ct l w yX12_linePairs prog_14_method_89_code 2 (Option.some FieldType.int) 5 129 evIM emM [.ref t] M (FX12_linePairs t M) := by
  refine ct_of (by decide) (Nat.le_of_ble_eq_true rfl) (fun x hl hx hb hz => ?_)
  subst hl
  have hd : ∀ i, DAt (xc x).code (tbX12_linePairs[i]?) := fun i => by rw [hb]; exact dat_of dX12_linePairs i
  show C x w (Qn x w evIM emM) 2 0 [(0, .ref t)] [] M (FX12_linePairs t M)
  unfold FX12_linePairs
  refine r_iconst (pc' := 1) (v := 1) hx (hd 0) (by decide) rfl ?_
  refine r_istore_n (pc' := 2) (L' := [(1, .int 1), (0, .ref t)]) hx (hd 1) rfl (by decide) rfl rfl ?_
  refine r_sub [1, 0] rfl ?_
  refine r_wl1 (fun v1 => [(0, .ref t), (1, .int v1)]) (fun v1 => []) (fun v1 => M) (fun v1 rec2 ih3 => ?_) fuel 1
  refine r_iload_n (pc' := 3) hx (hd 2) rfl 1 rfl rfl ?_
  refine r_aload_n (pc' := 4) hx (hd 3) rfl 0 rfl rfl ?_
  refine r_get (pc' := 7) (v := .ref (t + 2)) hx (hd 4) fl_12_13 ht rfl (by decide) rfl ?_
  have h4 := hL.1 _ _ _ ht 3 2 20 5594 rfl
  refine r_bipush (pc' := 9) (v := 13) hx (hd 5) (by decide) rfl ?_
  refine r_iald (pc' := 10) (k := 13) hx (hd 6) h4 (by decide) (by decide) rfl ?_
  refine r_jn0 38 ([(0, .ref t), (1, .int v1)]) ([]) (M) (?_) (fun j5 hj6 => ?_)
  · skip
    refine r_iload_n (pc' := 39) hx (hd 19) rfl 1 rfl rfl ?_
    refine r_iconst (pc' := 40) (v := 2) hx (hd 20) (by decide) rfl ?_
    refine r_jn2 72 (fun v7 M8 => []) (fun v7 M8 => [.int v7]) (fun v7 M8 => M8) (fun v7 M8 => ?_) (fun j9 hj10 => ?_)
    · skip
      exact r_iret hx (hd 43) rfl rfl hz
    refine r_icmp_ge (tgt := 47) (pc' := 43) hx (hd 21) (by decide) (fun _ => ?_) rfl (fun _ => ?_)
    · skip
      refine r_aload_n (pc' := 48) hx (hd 24) rfl 0 rfl rfl ?_
      refine r_iconst (pc' := 49) (v := 2) hx (hd 25) (by decide) rfl ?_
      refine r_aload_n (pc' := 50) hx (hd 26) rfl 0 rfl rfl ?_
      refine r_iconst (pc' := 51) (v := 0) hx (hd 27) (by decide) rfl ?_
      refine r_callV (pc' := 54) (As := [.int 0]) (rest := [.int 2, .ref t]) hx (hd 28) md_X12_lineCard mi_X12_lineCard ms_X12_lineCard ml_12_527 (cX12_lineCard (xl x) w hL t ht 0 M) ht rfl (by decide) ⟨Nat.le_of_ble_eq_true rfl, Nat.le_of_ble_eq_true rfl⟩ rfl rfl (Nat.le_of_ble_eq_true rfl) (fun r11 => .int r11 :: [.int 2, .ref t]) (fun _ => M) (fun _ => ⟨rfl, rfl⟩) rfl (fun r11 _ => ?_)
      refine r_callS (pc' := 57) (As := [.int r11]) (rest := [.int 2, .ref t]) hx (hd 29) md_X12_rankOf mst_X12_rankOf ml_12_447 (cX12_rankOf (xl x) w hL r11 M) ⟨Nat.le_of_ble_eq_true rfl, Nat.le_of_ble_eq_true rfl⟩ rfl rfl (Nat.le_of_ble_eq_true rfl) (fun r12 => .int r12 :: [.int 2, .ref t]) (fun _ => M) (fun _ => ⟨rfl, rfl⟩) rfl (fun r12 _ => ?_)
      refine r_iconst (pc' := 58) (v := (-1)) hx (hd 30) (by decide) rfl ?_
      refine r_iconst (pc' := 59) (v := 2) hx (hd 31) (by decide) rfl ?_
      refine r_iconst (pc' := 60) (v := (-1)) hx (hd 32) (by decide) rfl ?_
      refine r_iconst (pc' := 61) (v := 2) hx (hd 33) (by decide) rfl ?_
      refine r_callVI (pc' := 64) (As := [.int 2, .int r12, .int (-1), .int 2, .int (-1), .int 2]) (rest := []) hx (hd 34) md_X12_countsAs mi_X12_countsAs ms_X12_countsAs ml_12_458 (cX12_countsAs (xl x) w hL t ht 2 r12 (-1) 2 (-1) 2 M) ht rfl (by decide) ⟨Nat.le_of_ble_eq_true rfl, Nat.le_of_ble_eq_true rfl⟩ rfl rfl (Nat.le_of_ble_eq_true rfl) (fun r14 => .int r14 :: []) (fun _ => rfl) rfl (fun r14 M13 => ?_)
      refine r_iload_n (pc' := 65) hx (hd 35) rfl 1 rfl rfl ?_
      refine r_iload_n (pc' := 66) hx (hd 36) rfl 1 rfl rfl ?_
      refine r_iconst (pc' := 67) (v := 1) hx (hd 37) (by decide) rfl ?_
      refine r_isub (pc' := 68) hx (hd 38) rfl ?_
      refine r_imul (pc' := 69) hx (hd 39) rfl ?_
      refine r_iconst (pc' := 70) (v := 2) hx (hd 40) (by decide) rfl ?_
      refine r_idiv (pc' := 71) hx (hd 41) (by decide) rfl ?_
      refine r_imul (pc' := 72) hx (hd 42) rfl ?_
      refine r_sub [] rfl ?_
      exact hj10 (r14 * ((v1 * (v1 - 1)) / 2)) M13
    · skip
      refine r_iconst (pc' := 44) (v := 0) hx (hd 22) (by decide) rfl ?_
      refine r_goto (tgt := 72) hx (hd 23) (by decide) ?_
      refine r_sub [] rfl ?_
      exact hj10 0 M
  refine r_icmp_ge (tgt := 38) (pc' := 13) hx (hd 7) (by decide) (fun _ => ?_) rfl (fun _ => ?_)
  · skip
    exact hj6
  · skip
    refine r_aload_n (pc' := 14) hx (hd 8) rfl 0 rfl rfl ?_
    refine r_iload_n (pc' := 15) hx (hd 9) rfl 1 rfl rfl ?_
    refine r_callV (pc' := 18) (As := [.int v1]) (rest := []) hx (hd 10) md_X12_lineCard mi_X12_lineCard ms_X12_lineCard ml_12_527 (cX12_lineCard (xl x) w hL t ht v1 M) ht rfl (by decide) ⟨Nat.le_of_ble_eq_true rfl, Nat.le_of_ble_eq_true rfl⟩ rfl rfl (Nat.le_of_ble_eq_true rfl) (fun r15 => .int r15 :: []) (fun _ => M) (fun _ => ⟨rfl, rfl⟩) rfl (fun r15 _ => ?_)
    refine r_callS (pc' := 21) (As := [.int r15]) (rest := []) hx (hd 11) md_X12_rankOf mst_X12_rankOf ml_12_447 (cX12_rankOf (xl x) w hL r15 M) ⟨Nat.le_of_ble_eq_true rfl, Nat.le_of_ble_eq_true rfl⟩ rfl rfl (Nat.le_of_ble_eq_true rfl) (fun r16 => .int r16 :: []) (fun _ => M) (fun _ => ⟨rfl, rfl⟩) rfl (fun r16 _ => ?_)
    refine r_aload_n (pc' := 22) hx (hd 12) rfl 0 rfl rfl ?_
    refine r_iconst (pc' := 23) (v := 0) hx (hd 13) (by decide) rfl ?_
    refine r_callV (pc' := 26) (As := [.int 0]) (rest := [.int r16]) hx (hd 14) md_X12_lineCard mi_X12_lineCard ms_X12_lineCard ml_12_527 (cX12_lineCard (xl x) w hL t ht 0 M) ht rfl (by decide) ⟨Nat.le_of_ble_eq_true rfl, Nat.le_of_ble_eq_true rfl⟩ rfl rfl (Nat.le_of_ble_eq_true rfl) (fun r17 => .int r17 :: [.int r16]) (fun _ => M) (fun _ => ⟨rfl, rfl⟩) rfl (fun r17 _ => ?_)
    refine r_callS (pc' := 29) (As := [.int r17]) (rest := [.int r16]) hx (hd 15) md_X12_rankOf mst_X12_rankOf ml_12_447 (cX12_rankOf (xl x) w hL r17 M) ⟨Nat.le_of_ble_eq_true rfl, Nat.le_of_ble_eq_true rfl⟩ rfl rfl (Nat.le_of_ble_eq_true rfl) (fun r18 => .int r18 :: [.int r16]) (fun _ => M) (fun _ => ⟨rfl, rfl⟩) rfl (fun r18 _ => ?_)
    refine r_icmp_ne (tgt := 38) (pc' := 32) hx (hd 16) (by decide) (fun _ => ?_) rfl (fun _ => ?_)
    · skip
      exact hj6
    · skip
      refine r_iinc (pc' := 35) (v := 1) hx (hd 17) 1 rfl (by decide) (by decide) (fun v19 => [(1, .int v19), (0, .ref t)]) (fun _ => rfl) rfl (fun v19 => ?_)
      refine r_goto (tgt := 2) hx (hd 18) (by decide) ?_
      refine r_sub [1, 0] rfl ?_
      exact ih3 v19
abbrev yX12_is : MethodName := ({ cls := "CribbageRoomModel", name := "is", desc := "(II)Z" } : Jvm.MethodName)
def tbX12_is : List (Nat × Instr × Nat) := [(0, .iload_n 0, 1), (1, .iload_n 1, 1), (2, .ishr, 1), (3, .iconst 1, 1), (4, .iand, 1), (5, .iconst 1, 1), (6, .if_icmp .ne 7, 3), (9, .iconst 1, 1), (10, .goto 4, 3), (13, .iconst 0, 1), (14, .ireturn, 1)]
theorem dX12_is : ∀ q ∈ tbX12_is, decode prog_14_method_4_code q.1 = .ok q.2 := by decide +kernel
set_option maxRecDepth 20000 in
theorem cX12_is (l : Launch) (w : WX) (hL : Lay w) (p0 : Int32) (p1 : Int32) (M : Mem) : Ct l w yX12_is prog_14_method_4_code 2 (Option.some FieldType.boolean) 0 0 evI (emC M) [.int p0, .int p1] M (FX12_is p0 p1) := by
  refine ct_of (by decide) (Nat.le_of_ble_eq_true rfl) (fun x hl hx hb hz => ?_)
  subst hl
  have hd : ∀ i, DAt (xc x).code (tbX12_is[i]?) := fun i => by rw [hb]; exact dat_of dX12_is i
  show C x w (Qn x w evI (emC M)) 2 0 [(0, .int p0), (1, .int p1)] [] M (FX12_is p0 p1)
  unfold FX12_is
  refine r_iload_n (pc' := 1) hx (hd 0) rfl 0 rfl rfl ?_
  refine r_iload_n (pc' := 2) hx (hd 1) rfl 1 rfl rfl ?_
  refine r_ishr (pc' := 3) hx (hd 2) rfl ?_
  refine r_iconst (pc' := 4) (v := 1) hx (hd 3) (by decide) rfl ?_
  refine r_iand (pc' := 5) hx (hd 4) rfl ?_
  refine r_iconst (pc' := 6) (v := 1) hx (hd 5) (by decide) rfl ?_
  refine r_jn1 14 (fun v1 => []) (fun v1 => [.int v1]) (fun v1 => M) (fun v1 => ?_) (fun j2 hj3 => ?_)
  · skip
    refine r_gd (fun h4 => ?_)
    exact r_zret hx (hd 10) h4 rfl rfl hz
  refine r_icmp_ne (tgt := 13) (pc' := 9) hx (hd 6) (by decide) (fun _ => ?_) rfl (fun _ => ?_)
  · skip
    refine r_iconst (pc' := 14) (v := 0) hx (hd 9) (by decide) rfl ?_
    refine r_sub [] rfl ?_
    exact hj3 0
  · skip
    refine r_iconst (pc' := 10) (v := 1) hx (hd 7) (by decide) rfl ?_
    refine r_goto (tgt := 14) hx (hd 8) (by decide) ?_
    refine r_sub [] rfl ?_
    exact hj3 1
abbrev yX12_isRun : MethodName := ({ cls := "CribbageRoomModel", name := "isRun", desc := "(I)Z" } : Jvm.MethodName)
def tbX12_isRun : List (Nat × Instr × Nat) := [(0, .bipush 13, 2), (2, .istore_n 2, 1), (3, .iconst (-1), 1), (4, .istore_n 3, 1), (5, .iconst 0, 1), (6, .istore 4, 2), (8, .iconst 1, 1), (9, .istore 5, 2), (11, .iconst 0, 1), (12, .istore 6, 2), (14, .iload 6, 2), (16, .iload_n 1, 1), (17, .if_icmp .ge 77, 3), (20, .aload_n 0, 1), (21, .iload 6, 2), (23, .invokevirtual 527, 3), (26, .invokestatic 447, 3), (29, .istore 7, 2), (31, .iload 5, 2), (33, .ifCond .eq 17, 3), (36, .iload 4, 2), (38, .iload 7, 2), (40, .invokestatic 462, 3), (43, .ifCond .ne 7, 3), (46, .iconst 1, 1), (47, .goto 4, 3), (50, .iconst 0, 1), (51, .istore 5, 2), (53, .iload 4, 2), (55, .iconst 1, 1), (56, .iload 7, 2), (58, .ishl, 1), (59, .ior, 1), (60, .istore 4, 2), (62, .iload 7, 2), (64, .iload_n 2, 1), (65, .if_icmp .ge 8, 3), (68, .iload 7, 2), (70, .goto 4, 3), (73, .iload_n 2, 1), (74, .istore_n 2, 1), (75, .iload 7, 2), (77, .iload_n 3, 1), (78, .if_icmp .le 8, 3), (81, .iload 7, 2), (83, .goto 4, 3), (86, .iload_n 3, 1), (87, .istore_n 3, 1), (88, .iinc 6 1, 3), (91, .goto (-77), 3), (94, .iload 5, 2), (96, .ifCond .eq 16, 3), (99, .iload_n 3, 1), (100, .iload_n 2, 1), (101, .isub, 1), (102, .iload_n 1, 1), (103, .iconst 1, 1), (104, .isub, 1), (105, .if_icmp .ne 7, 3), (108, .iconst 1, 1), (109, .goto 4, 3), (112, .iconst 0, 1), (113, .ireturn, 1)]
theorem dX12_isRun : ∀ q ∈ tbX12_isRun, decode prog_14_method_90_code q.1 = .ok q.2 := by decide +kernel
set_option maxRecDepth 20000 in
theorem cX12_isRun (l : Launch) (w : WX) (hL : Lay w) (t : Nat) (ht : Wat w t 12 0) (p1 : Int32) (M : Mem) : Ct l w yX12_isRun prog_14_method_90_code 8 (Option.some FieldType.boolean) 1 21 evI (emC M) [.ref t, .int p1] M (FX12_isRun t p1 M) := by
  refine ct_of (by decide) (Nat.le_of_ble_eq_true rfl) (fun x hl hx hb hz => ?_)
  subst hl
  have hd : ∀ i, DAt (xc x).code (tbX12_isRun[i]?) := fun i => by rw [hb]; exact dat_of dX12_isRun i
  show C x w (Qn x w evI (emC M)) 8 0 [(0, .ref t), (1, .int p1)] [] M (FX12_isRun t p1 M)
  unfold FX12_isRun
  refine r_bipush (pc' := 2) (v := 13) hx (hd 0) (by decide) rfl ?_
  refine r_istore_n (pc' := 3) (L' := [(2, .int 13), (0, .ref t), (1, .int p1)]) hx (hd 1) rfl (by decide) rfl rfl ?_
  refine r_iconst (pc' := 4) (v := (-1)) hx (hd 2) (by decide) rfl ?_
  refine r_istore_n (pc' := 5) (L' := [(3, .int (-1)), (2, .int 13), (0, .ref t), (1, .int p1)]) hx (hd 3) rfl (by decide) rfl rfl ?_
  refine r_iconst (pc' := 6) (v := 0) hx (hd 4) (by decide) rfl ?_
  refine r_istore (pc' := 8) (L' := [(4, .int 0), (3, .int (-1)), (2, .int 13), (0, .ref t), (1, .int p1)]) hx (hd 5) (by decide) rfl rfl ?_
  refine r_iconst (pc' := 9) (v := 1) hx (hd 6) (by decide) rfl ?_
  refine r_istore (pc' := 11) (L' := [(5, .int 1), (4, .int 0), (3, .int (-1)), (2, .int 13), (0, .ref t), (1, .int p1)]) hx (hd 7) (by decide) rfl rfl ?_
  refine r_iconst (pc' := 12) (v := 0) hx (hd 8) (by decide) rfl ?_
  refine r_istore (pc' := 14) (L' := [(6, .int 0), (5, .int 1), (4, .int 0), (3, .int (-1)), (2, .int 13), (0, .ref t), (1, .int p1)]) hx (hd 9) (by decide) rfl rfl ?_
  refine r_sub [5, 6, 4, 3, 2, 1, 0] rfl ?_
  refine r_wl5 (fun v1 v2 v3 v4 v5 => [(0, .ref t), (1, .int p1), (2, .int v1), (3, .int v2), (4, .int v3), (5, .int v4), (6, .int v5)]) (fun v1 v2 v3 v4 v5 => []) (fun v1 v2 v3 v4 v5 => M) (fun v1 v2 v3 v4 v5 rec6 ih7 => ?_) fuel 13 (-1) 0 1 0
  refine r_iload (pc' := 16) hx (hd 10) 6 rfl rfl ?_
  refine r_iload_n (pc' := 17) hx (hd 11) rfl 1 rfl rfl ?_
  refine r_icmp_ge (tgt := 94) (pc' := 20) hx (hd 12) (by decide) (fun _ => ?_) rfl (fun _ => ?_)
  · skip
    refine r_iload (pc' := 96) hx (hd 50) 5 rfl rfl ?_
    refine r_jn1 113 (fun v8 => []) (fun v8 => [.int v8]) (fun v8 => M) (fun v8 => ?_) (fun j9 hj10 => ?_)
    · skip
      refine r_gd (fun h11 => ?_)
      exact r_zret hx (hd 62) h11 rfl rfl hz
    refine r_jn0 112 ([]) ([]) (M) (?_) (fun j12 hj13 => ?_)
    · skip
      refine r_iconst (pc' := 113) (v := 0) hx (hd 61) (by decide) rfl ?_
      exact hj10 0
    refine r_if_eq (tgt := 112) (pc' := 99) hx (hd 51) (by decide) (fun _ => ?_) rfl (fun _ => ?_)
    · skip
      refine r_sub [] rfl ?_
      exact hj13
    · skip
      refine r_iload_n (pc' := 100) hx (hd 52) rfl 3 rfl rfl ?_
      refine r_iload_n (pc' := 101) hx (hd 53) rfl 2 rfl rfl ?_
      refine r_isub (pc' := 102) hx (hd 54) rfl ?_
      refine r_iload_n (pc' := 103) hx (hd 55) rfl 1 rfl rfl ?_
      refine r_iconst (pc' := 104) (v := 1) hx (hd 56) (by decide) rfl ?_
      refine r_isub (pc' := 105) hx (hd 57) rfl ?_
      refine r_icmp_ne (tgt := 112) (pc' := 108) hx (hd 58) (by decide) (fun _ => ?_) rfl (fun _ => ?_)
      · skip
        refine r_sub [] rfl ?_
        exact hj13
      · skip
        refine r_iconst (pc' := 109) (v := 1) hx (hd 59) (by decide) rfl ?_
        refine r_goto (tgt := 113) hx (hd 60) (by decide) ?_
        refine r_sub [] rfl ?_
        exact hj10 1
  · skip
    refine r_aload_n (pc' := 21) hx (hd 13) rfl 0 rfl rfl ?_
    refine r_iload (pc' := 23) hx (hd 14) 6 rfl rfl ?_
    refine r_callV (pc' := 26) (As := [.int v5]) (rest := []) hx (hd 15) md_X12_lineCard mi_X12_lineCard ms_X12_lineCard ml_12_527 (cX12_lineCard (xl x) w hL t ht v5 M) ht rfl (by decide) ⟨Nat.le_of_ble_eq_true rfl, Nat.le_of_ble_eq_true rfl⟩ rfl rfl (Nat.le_of_ble_eq_true rfl) (fun r14 => .int r14 :: []) (fun _ => M) (fun _ => ⟨rfl, rfl⟩) rfl (fun r14 _ => ?_)
    refine r_callS (pc' := 29) (As := [.int r14]) (rest := []) hx (hd 16) md_X12_rankOf mst_X12_rankOf ml_12_447 (cX12_rankOf (xl x) w hL r14 M) ⟨Nat.le_of_ble_eq_true rfl, Nat.le_of_ble_eq_true rfl⟩ rfl rfl (Nat.le_of_ble_eq_true rfl) (fun r15 => .int r15 :: []) (fun _ => M) (fun _ => ⟨rfl, rfl⟩) rfl (fun r15 _ => ?_)
    refine r_istore (pc' := 31) (L' := [(7, .int r15), (0, .ref t), (1, .int p1), (2, .int v1), (3, .int v2), (4, .int v3), (5, .int v4), (6, .int v5)]) hx (hd 17) (by decide) rfl rfl ?_
    refine r_iload (pc' := 33) hx (hd 18) 6 rfl rfl ?_
    refine r_jn1 51 (fun v16 => [(0, .ref t), (1, .int p1), (2, .int v1), (3, .int v2), (4, .int v3), (6, .int v5), (7, .int r15)]) (fun v16 => [.int v16]) (fun v16 => M) (fun v16 => ?_) (fun j17 hj18 => ?_)
    · skip
      refine r_istore (pc' := 53) (L' := [(5, .int v16), (0, .ref t), (1, .int p1), (2, .int v1), (3, .int v2), (4, .int v3), (6, .int v5), (7, .int r15)]) hx (hd 27) (by decide) rfl rfl ?_
      refine r_iload (pc' := 55) hx (hd 28) 5 rfl rfl ?_
      refine r_iconst (pc' := 56) (v := 1) hx (hd 29) (by decide) rfl ?_
      refine r_iload (pc' := 58) hx (hd 30) 7 rfl rfl ?_
      refine r_ishl (pc' := 59) hx (hd 31) rfl ?_
      refine r_ior (pc' := 60) hx (hd 32) rfl ?_
      refine r_nmI (fun v19 => ?_)
      refine r_istore (pc' := 62) (L' := [(4, .int v19), (5, .int v16), (0, .ref t), (1, .int p1), (2, .int v1), (3, .int v2), (6, .int v5), (7, .int r15)]) hx (hd 33) (by decide) rfl rfl ?_
      refine r_iload (pc' := 64) hx (hd 34) 7 rfl rfl ?_
      refine r_iload_n (pc' := 65) hx (hd 35) rfl 4 rfl rfl ?_
      refine r_jn1 74 (fun v20 => [(0, .ref t), (1, .int p1), (3, .int v2), (4, .int v19), (5, .int v16), (6, .int v5), (7, .int r15)]) (fun v20 => [.int v20]) (fun v20 => M) (fun v20 => ?_) (fun j21 hj22 => ?_)
      · skip
        refine r_istore_n (pc' := 75) (L' := [(2, .int v20), (0, .ref t), (1, .int p1), (3, .int v2), (4, .int v19), (5, .int v16), (6, .int v5), (7, .int r15)]) hx (hd 40) rfl (by decide) rfl rfl ?_
        refine r_iload (pc' := 77) hx (hd 41) 7 rfl rfl ?_
        refine r_iload_n (pc' := 78) hx (hd 42) rfl 3 rfl rfl ?_
        refine r_jn1 87 (fun v23 => [(0, .ref t), (1, .int p1), (2, .int v20), (4, .int v19), (5, .int v16), (6, .int v5)]) (fun v23 => [.int v23]) (fun v23 => M) (fun v23 => ?_) (fun j24 hj25 => ?_)
        · skip
          refine r_istore_n (pc' := 88) (L' := [(3, .int v23), (0, .ref t), (1, .int p1), (2, .int v20), (4, .int v19), (5, .int v16), (6, .int v5)]) hx (hd 47) rfl (by decide) rfl rfl ?_
          refine r_iinc (pc' := 91) (v := 1) hx (hd 48) 6 rfl (by decide) (by decide) (fun v26 => [(6, .int v26), (3, .int v23), (0, .ref t), (1, .int p1), (2, .int v20), (4, .int v19), (5, .int v16)]) (fun _ => rfl) rfl (fun v26 => ?_)
          refine r_goto (tgt := 14) hx (hd 49) (by decide) ?_
          refine r_sub [2, 3, 4, 1, 5, 6, 0] rfl ?_
          exact ih7 v20 v23 v19 v16 v26
        refine r_icmp_le (tgt := 86) (pc' := 81) hx (hd 43) (by decide) (fun _ => ?_) rfl (fun _ => ?_)
        · skip
          refine r_iload_n (pc' := 87) hx (hd 46) rfl 3 rfl rfl ?_
          refine r_sub [1, 2, 0, 4, 5, 6] rfl ?_
          exact hj25 v2
        · skip
          refine r_iload (pc' := 83) hx (hd 44) 7 rfl rfl ?_
          refine r_goto (tgt := 87) hx (hd 45) (by decide) ?_
          refine r_sub [1, 2, 0, 4, 5, 6] rfl ?_
          exact hj25 r15
      refine r_icmp_ge (tgt := 73) (pc' := 68) hx (hd 36) (by decide) (fun _ => ?_) rfl (fun _ => ?_)
      · skip
        refine r_iload_n (pc' := 74) hx (hd 39) rfl 4 rfl rfl ?_
        refine r_sub [2, 3, 5, 0, 1, 6, 7] rfl ?_
        exact hj22 v1
      · skip
        refine r_iload (pc' := 70) hx (hd 37) 7 rfl rfl ?_
        refine r_goto (tgt := 74) hx (hd 38) (by decide) ?_
        refine r_sub [2, 3, 5, 0, 1, 6, 7] rfl ?_
        exact hj22 r15
    refine r_jn0 50 ([(0, .ref t), (1, .int p1), (2, .int v1), (3, .int v2), (4, .int v3), (6, .int v5), (7, .int r15)]) ([]) (M) (?_) (fun j27 hj28 => ?_)
    · skip
      refine r_iconst (pc' := 51) (v := 0) hx (hd 26) (by decide) rfl ?_
      exact hj18 0
    refine r_if_eq (tgt := 50) (pc' := 36) hx (hd 19) (by decide) (fun _ => ?_) rfl (fun _ => ?_)
    · skip
      refine r_sub [1, 2, 3, 4, 5, 7, 0] rfl ?_
      exact hj28
    · skip
      refine r_iload (pc' := 38) hx (hd 20) 5 rfl rfl ?_
      refine r_iload (pc' := 40) hx (hd 21) 0 rfl rfl ?_
      refine r_callS (pc' := 43) (As := [.int v3, .int r15]) (rest := []) hx (hd 22) md_X12_is mst_X12_is ml_12_462 (cX12_is (xl x) w hL v3 r15 M) ⟨Nat.le_of_ble_eq_true rfl, Nat.le_of_ble_eq_true rfl⟩ rfl rfl (Nat.le_of_ble_eq_true rfl) (fun r29 => .int r29 :: []) (fun _ => M) (fun _ => ⟨rfl, rfl⟩) rfl (fun r29 _ => ?_)
      refine r_if_ne (tgt := 50) (pc' := 46) hx (hd 23) (by decide) (fun _ => ?_) rfl (fun _ => ?_)
      · skip
        refine r_sub [1, 2, 3, 4, 5, 7, 0] rfl ?_
        exact hj28
      · skip
        refine r_iconst (pc' := 47) (v := 1) hx (hd 24) (by decide) rfl ?_
        refine r_goto (tgt := 51) hx (hd 25) (by decide) ?_
        refine r_sub [1, 2, 3, 4, 5, 7, 0] rfl ?_
        exact hj18 1
abbrev yX12_lineRun : MethodName := ({ cls := "CribbageRoomModel", name := "lineRun", desc := "()I" } : Jvm.MethodName)
def tbX12_lineRun : List (Nat × Instr × Nat) := [(0, .aload_n 0, 1), (1, .getfield 13, 3), (4, .bipush 13, 2), (6, .iaload, 1), (7, .istore_n 1, 1), (8, .iload_n 1, 1), (9, .iconst 2, 1), (10, .if_icmp .le 17, 3), (13, .aload_n 0, 1), (14, .iload_n 1, 1), (15, .invokevirtual 530, 3), (18, .ifCond .ne 9, 3), (21, .iinc 1 (-1), 3), (24, .goto (-16), 3), (27, .iload_n 1, 1), (28, .iconst 3, 1), (29, .if_icmp .ge 7, 3), (32, .iconst 0, 1), (33, .goto 13, 3), (36, .aload_n 0, 1), (37, .iconst 3, 1), (38, .iconst (-1), 1), (39, .iconst (-1), 1), (40, .iload_n 1, 1), (41, .iconst (-1), 1), (42, .iload_n 1, 1), (43, .invokevirtual 458, 3), (46, .ireturn, 1)]
theorem dX12_lineRun : ∀ q ∈ tbX12_lineRun, decode prog_14_method_91_code q.1 = .ok q.2 := by decide +kernel
set_option maxRecDepth 20000 in
theorem cX12_lineRun (l : Launch) (w : WX) (hL : Lay w) (t : Nat) (ht : Wat w t 12 0) (M : Mem) : Ct l w yX12_lineRun prog_14_method_91_code 2 (Option.some FieldType.int) 5 129 evIM emM [.ref t] M (FX12_lineRun t M) := by
  refine ct_of (by decide) (Nat.le_of_ble_eq_true rfl) (fun x hl hx hb hz => ?_)
  subst hl
  have hd : ∀ i, DAt (xc x).code (tbX12_lineRun[i]?) := fun i => by rw [hb]; exact dat_of dX12_lineRun i
  show C x w (Qn x w evIM emM) 2 0 [(0, .ref t)] [] M (FX12_lineRun t M)
  unfold FX12_lineRun
  refine r_aload_n (pc' := 1) hx (hd 0) rfl 0 rfl rfl ?_
  refine r_get (pc' := 4) (v := .ref (t + 2)) hx (hd 1) fl_12_13 ht rfl (by decide) rfl ?_
  have h1 := hL.1 _ _ _ ht 3 2 20 5594 rfl
  refine r_bipush (pc' := 6) (v := 13) hx (hd 2) (by decide) rfl ?_
  refine r_iald (pc' := 7) (k := 13) hx (hd 3) h1 (by decide) (by decide) rfl ?_
  refine r_nmI (fun v2 => ?_)
  refine r_istore_n (pc' := 8) (L' := [(1, .int v2), (0, .ref t)]) hx (hd 4) rfl (by decide) rfl rfl ?_
  refine r_sub [1, 0] rfl ?_
  refine r_wl1 (fun v3 => [(0, .ref t), (1, .int v3)]) (fun v3 => []) (fun v3 => M) (fun v3 rec4 ih5 => ?_) fuel v2
  refine r_iload_n (pc' := 9) hx (hd 5) rfl 1 rfl rfl ?_
  refine r_iconst (pc' := 10) (v := 2) hx (hd 6) (by decide) rfl ?_
  refine r_jn0 27 ([(0, .ref t), (1, .int v3)]) ([]) (M) (?_) (fun j6 hj7 => ?_)
  · skip
    refine r_iload_n (pc' := 28) hx (hd 14) rfl 1 rfl rfl ?_
    refine r_iconst (pc' := 29) (v := 3) hx (hd 15) (by decide) rfl ?_
    refine r_jn2 46 (fun v8 M9 => []) (fun v8 M9 => [.int v8]) (fun v8 M9 => M9) (fun v8 M9 => ?_) (fun j10 hj11 => ?_)
    · skip
      exact r_iret hx (hd 27) rfl rfl hz
    refine r_icmp_ge (tgt := 36) (pc' := 32) hx (hd 16) (by decide) (fun _ => ?_) rfl (fun _ => ?_)
    · skip
      refine r_aload_n (pc' := 37) hx (hd 19) rfl 0 rfl rfl ?_
      refine r_iconst (pc' := 38) (v := 3) hx (hd 20) (by decide) rfl ?_
      refine r_iconst (pc' := 39) (v := (-1)) hx (hd 21) (by decide) rfl ?_
      refine r_iconst (pc' := 40) (v := (-1)) hx (hd 22) (by decide) rfl ?_
      refine r_iload_n (pc' := 41) hx (hd 23) rfl 1 rfl rfl ?_
      refine r_iconst (pc' := 42) (v := (-1)) hx (hd 24) (by decide) rfl ?_
      refine r_iload_n (pc' := 43) hx (hd 25) rfl 1 rfl rfl ?_
      refine r_callVI (pc' := 46) (As := [.int 3, .int (-1), .int (-1), .int v3, .int (-1), .int v3]) (rest := []) hx (hd 26) md_X12_countsAs mi_X12_countsAs ms_X12_countsAs ml_12_458 (cX12_countsAs (xl x) w hL t ht 3 (-1) (-1) v3 (-1) v3 M) ht rfl (by decide) ⟨Nat.le_of_ble_eq_true rfl, Nat.le_of_ble_eq_true rfl⟩ rfl rfl (Nat.le_of_ble_eq_true rfl) (fun r13 => .int r13 :: []) (fun _ => rfl) rfl (fun r13 M12 => ?_)
      refine r_sub [] rfl ?_
      exact hj11 r13 M12
    · skip
      refine r_iconst (pc' := 33) (v := 0) hx (hd 17) (by decide) rfl ?_
      refine r_goto (tgt := 46) hx (hd 18) (by decide) ?_
      refine r_sub [] rfl ?_
      exact hj11 0 M
  refine r_icmp_le (tgt := 27) (pc' := 13) hx (hd 7) (by decide) (fun _ => ?_) rfl (fun _ => ?_)
  · skip
    exact hj7
  · skip
    refine r_aload_n (pc' := 14) hx (hd 8) rfl 0 rfl rfl ?_
    refine r_iload_n (pc' := 15) hx (hd 9) rfl 1 rfl rfl ?_
    refine r_callV (pc' := 18) (As := [.int v3]) (rest := []) hx (hd 10) md_X12_isRun mi_X12_isRun ms_X12_isRun ml_12_530 (cX12_isRun (xl x) w hL t ht v3 M) ht rfl (by decide) ⟨Nat.le_of_ble_eq_true rfl, Nat.le_of_ble_eq_true rfl⟩ rfl rfl (Nat.le_of_ble_eq_true rfl) (fun r14 => .int r14 :: []) (fun _ => M) (fun _ => ⟨rfl, rfl⟩) rfl (fun r14 _ => ?_)
    refine r_if_ne (tgt := 27) (pc' := 21) hx (hd 11) (by decide) (fun _ => ?_) rfl (fun _ => ?_)
    · skip
      exact hj7
    · skip
      refine r_iinc (pc' := 24) (v := (-1)) hx (hd 12) 1 rfl (by decide) (by decide) (fun v15 => [(1, .int v15), (0, .ref t)]) (fun _ => rfl) rfl (fun v15 => ?_)
      refine r_goto (tgt := 8) hx (hd 13) (by decide) ?_
      refine r_sub [1, 0] rfl ?_
      exact ih5 v15
abbrev yX12_playIt : MethodName := ({ cls := "CribbageRoomModel", name := "playIt", desc := "(I)I" } : Jvm.MethodName)
def tbX12_playIt : List (Nat × Instr × Nat) := [(0, .aload_n 0, 1), (1, .getfield 13, 3), (4, .bipush 14, 2), (6, .iaload, 1), (7, .istore_n 2, 1), (8, .aload_n 0, 1), (9, .getfield 13, 3), (12, .bipush 70, 2), (14, .iload_n 1, 1), (15, .iadd, 1), (16, .iconst 1, 1), (17, .iastore, 1), (18, .aload_n 0, 1), (19, .getfield 13, 3), (22, .bipush 122, 2), (24, .aload_n 0, 1), (25, .getfield 13, 3), (28, .bipush 13, 2), (30, .iaload, 1), (31, .iadd, 1), (32, .iload_n 1, 1), (33, .iastore, 1), (34, .aload_n 0, 1), (35, .getfield 13, 3), (38, .bipush 13, 2), (40, .dup2, 1), (41, .iaload, 1), (42, .iconst 1, 1), (43, .iadd, 1), (44, .iastore, 1), (45, .aload_n 0, 1), (46, .getfield 13, 3), (49, .bipush 12, 2), (51, .dup2, 1), (52, .iaload, 1), (53, .aload_n 0, 1), (54, .iload_n 1, 1), (55, .invokevirtual 221, 3), (58, .iadd, 1), (59, .iastore, 1), (60, .aload_n 0, 1), (61, .getfield 13, 3), (64, .bipush 15, 2), (66, .iload_n 2, 1), (67, .iastore, 1), (68, .aload_n 0, 1), (69, .getfield 13, 3), (72, .bipush 12, 2), (74, .iaload, 1), (75, .aload_n 0, 1), (76, .getfield 13, 3), (79, .bipush 7, 2), (81, .iaload, 1), (82, .if_icmp .ne 22, 3), (85, .aload_n 0, 1), (86, .iconst 1, 1), (87, .iconst (-1), 1), (88, .iconst (-1), 1), (89, .aload_n 0, 1), (90, .getfield 13, 3), (93, .bipush 13, 2), (95, .iaload, 1), (96, .iconst (-1), 1), (97, .iconst 2, 1), (98, .invokevirtual 458, 3), (101, .goto 4, 3), (104, .iconst 0, 1), (105, .istore_n 3, 1), (106, .iload_n 3, 1), (107, .aload_n 0, 1), (108, .getfield 13, 3), (111, .bipush 12, 2), (113, .iaload, 1), (114, .bipush 31, 2), (116, .if_icmp .ne 7, 3), (119, .iconst 2, 1), (120, .goto 4, 3), (123, .iconst 0, 1), (124, .iadd, 1), (125, .istore_n 3, 1), (126, .iload_n 3, 1), (127, .aload_n 0, 1), (128, .invokevirtual 533, 3), (131, .aload_n 0, 1), (132, .invokevirtual 536, 3), (135, .iadd, 1), (136, .iadd, 1), (137, .istore_n 3, 1), (138, .aload_n 0, 1), (139, .iconst 1, 1), (140, .iload_n 2, 1), (141, .isub, 1), (142, .iload_n 2, 1), (143, .invokevirtual 518, 3), (146, .aload_n 0, 1), (147, .getfield 13, 3), (150, .bipush 14, 2), (152, .iaload, 1), (153, .iconst (-1), 1), (154, .if_icmp .ne 47, 3), (157, .iload_n 3, 1), (158, .aload_n 0, 1), (159, .getfield 13, 3), (162, .bipush 12, 2), (164, .iaload, 1), (165, .bipush 31, 2), (167, .if_icmp .ne 7, 3), (170, .iconst 0, 1), (171, .goto 4, 3), (174, .iconst 1, 1), (175, .iadd, 1), (176, .istore_n 3, 1), (177, .aload_n 0, 1), (178, .getfield 13, 3), (181, .bipush 12, 2), (183, .iconst 0, 1), (184, .iastore, 1), (185, .aload_n 0, 1), (186, .getfield 13, 3), (189, .bipush 13, 2), (191, .iconst 0, 1), (192, .iastore, 1), (193, .aload_n 0, 1), (194, .iconst 1, 1), (195, .iload_n 2, 1), (196, .isub, 1), (197, .iload_n 2, 1), (198, .invokevirtual 518, 3), (201, .aload_n 0, 1), (202, .iload_n 2, 1), (203, .iload_n 3, 1), (204, .invokevirtual 515, 3), (207, .iload_n 3, 1), (208, .ireturn, 1)]
theorem dX12_playIt : ∀ q ∈ tbX12_playIt, decode prog_14_method_92_code q.1 = .ok q.2 := by decide +kernel
set_option maxRecDepth 20000 in
theorem cX12_playIt (l : Launch) (w : WX) (hL : Lay w) (t : Nat) (ht : Wat w t 12 0) (p1 : Int32) (M : Mem) : Ct l w yX12_playIt prog_14_method_92_code 4 (Option.some FieldType.int) 8 192 evIM emM [.ref t, .int p1] M (FX12_playIt t p1 M) := by
  refine ct_of (by decide) (Nat.le_of_ble_eq_true rfl) (fun x hl hx hb hz => ?_)
  subst hl
  have hd : ∀ i, DAt (xc x).code (tbX12_playIt[i]?) := fun i => by rw [hb]; exact dat_of dX12_playIt i
  show C x w (Qn x w evIM emM) 4 0 [(0, .ref t), (1, .int p1)] [] M (FX12_playIt t p1 M)
  unfold FX12_playIt
  refine r_aload_n (pc' := 1) hx (hd 0) rfl 0 rfl rfl ?_
  refine r_get (pc' := 4) (v := .ref (t + 2)) hx (hd 1) fl_12_13 ht rfl (by decide) rfl ?_
  have h1 := hL.1 _ _ _ ht 3 2 20 5594 rfl
  refine r_bipush (pc' := 6) (v := 14) hx (hd 2) (by decide) rfl ?_
  refine r_iald (pc' := 7) (k := 14) hx (hd 3) h1 (by decide) (by decide) rfl ?_
  refine r_nmI (fun v2 => ?_)
  refine r_istore_n (pc' := 8) (L' := [(2, .int v2), (0, .ref t), (1, .int p1)]) hx (hd 4) rfl (by decide) rfl rfl ?_
  refine r_aload_n (pc' := 9) hx (hd 5) rfl 1 rfl rfl ?_
  refine r_get (pc' := 12) (v := .ref (t + 2)) hx (hd 6) fl_12_13 ht rfl (by decide) rfl ?_
  have h3 := hL.1 _ _ _ ht 3 2 20 5594 rfl
  refine r_bipush (pc' := 14) (v := 70) hx (hd 7) (by decide) rfl ?_
  refine r_iload_n (pc' := 15) hx (hd 8) rfl 2 rfl rfl ?_
  refine r_iadd (pc' := 16) hx (hd 9) rfl ?_
  refine r_iconst (pc' := 17) (v := 1) hx (hd 10) (by decide) rfl ?_
  refine r_gd (fun h5 => ?_)
  refine r_iast (pc' := 18) (k := ix (70 + p1)) hx (hd 11) h3 h5 rfl rfl (fun M4 => ?_)
  refine r_aload_n (pc' := 19) hx (hd 12) rfl 1 rfl rfl ?_
  refine r_get (pc' := 22) (v := .ref (t + 2)) hx (hd 13) fl_12_13 ht rfl (by decide) rfl ?_
  have h6 := hL.1 _ _ _ ht 3 2 20 5594 rfl
  refine r_bipush (pc' := 24) (v := 122) hx (hd 14) (by decide) rfl ?_
  refine r_aload_n (pc' := 25) hx (hd 15) rfl 1 rfl rfl ?_
  refine r_get (pc' := 28) (v := .ref (t + 2)) hx (hd 16) fl_12_13 ht rfl (by decide) rfl ?_
  have h7 := hL.1 _ _ _ ht 3 2 20 5594 rfl
  refine r_bipush (pc' := 30) (v := 13) hx (hd 17) (by decide) rfl ?_
  refine r_iald (pc' := 31) (k := 13) hx (hd 18) h7 (by decide) (by decide) rfl ?_
  refine r_iadd (pc' := 32) hx (hd 19) rfl ?_
  refine r_iload_n (pc' := 33) hx (hd 20) rfl 2 rfl rfl ?_
  refine r_gd (fun h9 => ?_)
  refine r_iast (pc' := 34) (k := ix (122 + (mI M4 (t + 2) 13))) hx (hd 21) h6 h9 rfl rfl (fun M8 => ?_)
  refine r_aload_n (pc' := 35) hx (hd 22) rfl 1 rfl rfl ?_
  refine r_get (pc' := 38) (v := .ref (t + 2)) hx (hd 23) fl_12_13 ht rfl (by decide) rfl ?_
  have h10 := hL.1 _ _ _ ht 3 2 20 5594 rfl
  refine r_bipush (pc' := 40) (v := 13) hx (hd 24) (by decide) rfl ?_
  refine r_dup2 (pc' := 41) hx (hd 25) rfl rfl rfl ?_
  refine r_iald (pc' := 42) (k := 13) hx (hd 26) h10 (by decide) (by decide) rfl ?_
  refine r_iconst (pc' := 43) (v := 1) hx (hd 27) (by decide) rfl ?_
  refine r_iadd (pc' := 44) hx (hd 28) rfl ?_
  refine r_iast (pc' := 45) (k := 13) hx (hd 29) h10 (by decide) (by decide) rfl (fun M11 => ?_)
  refine r_aload_n (pc' := 46) hx (hd 30) rfl 1 rfl rfl ?_
  refine r_get (pc' := 49) (v := .ref (t + 2)) hx (hd 31) fl_12_13 ht rfl (by decide) rfl ?_
  have h12 := hL.1 _ _ _ ht 3 2 20 5594 rfl
  refine r_bipush (pc' := 51) (v := 12) hx (hd 32) (by decide) rfl ?_
  refine r_dup2 (pc' := 52) hx (hd 33) rfl rfl rfl ?_
  refine r_iald (pc' := 53) (k := 12) hx (hd 34) h12 (by decide) (by decide) rfl ?_
  refine r_aload_n (pc' := 54) hx (hd 35) rfl 1 rfl rfl ?_
  refine r_iload_n (pc' := 55) hx (hd 36) rfl 2 rfl rfl ?_
  refine r_callVI (pc' := 58) (As := [.int p1]) (rest := [.int (mI M11 (t + 2) 12), .int 12, .ref (t + 2)]) hx (hd 37) md_X12_valueOf mi_X12_valueOf ms_X12_valueOf ml_12_221 (cX12_valueOf (xl x) w hL t ht p1 M11) ht rfl (by decide) ⟨Nat.le_of_ble_eq_true rfl, Nat.le_of_ble_eq_true rfl⟩ rfl rfl (Nat.le_of_ble_eq_true rfl) (fun r14 => .int r14 :: [.int (mI M11 (t + 2) 12), .int 12, .ref (t + 2)]) (fun _ => rfl) rfl (fun r14 M13 => ?_)
  refine r_iadd (pc' := 59) hx (hd 38) rfl ?_
  refine r_iast (pc' := 60) (k := 12) hx (hd 39) h12 (by decide) (by decide) rfl (fun M15 => ?_)
  refine r_aload_n (pc' := 61) hx (hd 40) rfl 1 rfl rfl ?_
  refine r_get (pc' := 64) (v := .ref (t + 2)) hx (hd 41) fl_12_13 ht rfl (by decide) rfl ?_
  have h16 := hL.1 _ _ _ ht 3 2 20 5594 rfl
  refine r_bipush (pc' := 66) (v := 15) hx (hd 42) (by decide) rfl ?_
  refine r_iload_n (pc' := 67) hx (hd 43) rfl 0 rfl rfl ?_
  refine r_iast (pc' := 68) (k := 15) hx (hd 44) h16 (by decide) (by decide) rfl (fun M17 => ?_)
  refine r_aload_n (pc' := 69) hx (hd 45) rfl 1 rfl rfl ?_
  refine r_get (pc' := 72) (v := .ref (t + 2)) hx (hd 46) fl_12_13 ht rfl (by decide) rfl ?_
  have h18 := hL.1 _ _ _ ht 3 2 20 5594 rfl
  refine r_bipush (pc' := 74) (v := 12) hx (hd 47) (by decide) rfl ?_
  refine r_iald (pc' := 75) (k := 12) hx (hd 48) h18 (by decide) (by decide) rfl ?_
  refine r_aload_n (pc' := 76) hx (hd 49) rfl 1 rfl rfl ?_
  refine r_get (pc' := 79) (v := .ref (t + 2)) hx (hd 50) fl_12_13 ht rfl (by decide) rfl ?_
  have h19 := hL.1 _ _ _ ht 3 2 20 5594 rfl
  refine r_bipush (pc' := 81) (v := 7) hx (hd 51) (by decide) rfl ?_
  refine r_iald (pc' := 82) (k := 7) hx (hd 52) h19 (by decide) (by decide) rfl ?_
  refine r_jn2 105 (fun v20 M21 => [(0, .ref t), (2, .int v2)]) (fun v20 M21 => [.int v20]) (fun v20 M21 => M21) (fun v20 M21 => ?_) (fun j22 hj23 => ?_)
  · skip
    refine r_istore_n (pc' := 106) (L' := [(3, .int v20), (0, .ref t), (2, .int v2)]) hx (hd 67) rfl (by decide) rfl rfl ?_
    refine r_iload_n (pc' := 107) hx (hd 68) rfl 0 rfl rfl ?_
    refine r_aload_n (pc' := 108) hx (hd 69) rfl 1 rfl rfl ?_
    refine r_get (pc' := 111) (v := .ref (t + 2)) hx (hd 70) fl_12_13 ht rfl (by decide) rfl ?_
    have h24 := hL.1 _ _ _ ht 3 2 20 5594 rfl
    refine r_bipush (pc' := 113) (v := 12) hx (hd 71) (by decide) rfl ?_
    refine r_iald (pc' := 114) (k := 12) hx (hd 72) h24 (by decide) (by decide) rfl ?_
    refine r_bipush (pc' := 116) (v := 31) hx (hd 73) (by decide) rfl ?_
    refine r_jn1 124 (fun v25 => [(0, .ref t), (2, .int v2)]) (fun v25 => [.int v25, .int v20]) (fun v25 => M21) (fun v25 => ?_) (fun j26 hj27 => ?_)
    · skip
      refine r_iadd (pc' := 125) hx (hd 78) rfl ?_
      refine r_nmI (fun v28 => ?_)
      refine r_istore_n (pc' := 126) (L' := [(3, .int v28), (0, .ref t), (2, .int v2)]) hx (hd 79) rfl (by decide) rfl rfl ?_
      refine r_iload_n (pc' := 127) hx (hd 80) rfl 0 rfl rfl ?_
      refine r_aload_n (pc' := 128) hx (hd 81) rfl 1 rfl rfl ?_
      refine r_callVI (pc' := 131) (As := []) (rest := [.int v28]) hx (hd 82) md_X12_linePairs mi_X12_linePairs ms_X12_linePairs ml_12_533 (cX12_linePairs (xl x) w hL t ht M21) ht rfl (by decide) ⟨Nat.le_of_ble_eq_true rfl, Nat.le_of_ble_eq_true rfl⟩ rfl rfl (Nat.le_of_ble_eq_true rfl) (fun r30 => .int r30 :: [.int v28]) (fun _ => rfl) rfl (fun r30 M29 => ?_)
      refine r_aload_n (pc' := 132) hx (hd 83) rfl 1 rfl rfl ?_
      refine r_callVI (pc' := 135) (As := []) (rest := [.int r30, .int v28]) hx (hd 84) md_X12_lineRun mi_X12_lineRun ms_X12_lineRun ml_12_536 (cX12_lineRun (xl x) w hL t ht M29) ht rfl (by decide) ⟨Nat.le_of_ble_eq_true rfl, Nat.le_of_ble_eq_true rfl⟩ rfl rfl (Nat.le_of_ble_eq_true rfl) (fun r32 => .int r32 :: [.int r30, .int v28]) (fun _ => rfl) rfl (fun r32 M31 => ?_)
      refine r_iadd (pc' := 136) hx (hd 85) rfl ?_
      refine r_iadd (pc' := 137) hx (hd 86) rfl ?_
      refine r_nmI (fun v33 => ?_)
      refine r_istore_n (pc' := 138) (L' := [(3, .int v33), (0, .ref t), (2, .int v2)]) hx (hd 87) rfl (by decide) rfl rfl ?_
      refine r_aload_n (pc' := 139) hx (hd 88) rfl 1 rfl rfl ?_
      refine r_iconst (pc' := 140) (v := 1) hx (hd 89) (by decide) rfl ?_
      refine r_iload_n (pc' := 141) hx (hd 90) rfl 2 rfl rfl ?_
      refine r_isub (pc' := 142) hx (hd 91) rfl ?_
      refine r_iload_n (pc' := 143) hx (hd 92) rfl 2 rfl rfl ?_
      refine r_callVU (pc' := 146) (As := [.int (1 - v2), .int v2]) (rest := []) hx (hd 93) md_X12_turnTo mi_X12_turnTo ms_X12_turnTo ml_12_518 (cX12_turnTo (xl x) w hL t ht (1 - v2) v2 M31) ht rfl (by decide) ⟨Nat.le_of_ble_eq_true rfl, Nat.le_of_ble_eq_true rfl⟩ rfl rfl (Nat.le_of_ble_eq_true rfl) rfl (fun M34 => ?_)
      refine r_aload_n (pc' := 147) hx (hd 94) rfl 1 rfl rfl ?_
      refine r_get (pc' := 150) (v := .ref (t + 2)) hx (hd 95) fl_12_13 ht rfl (by decide) rfl ?_
      have h35 := hL.1 _ _ _ ht 3 2 20 5594 rfl
      refine r_bipush (pc' := 152) (v := 14) hx (hd 96) (by decide) rfl ?_
      refine r_iald (pc' := 153) (k := 14) hx (hd 97) h35 (by decide) (by decide) rfl ?_
      refine r_iconst (pc' := 154) (v := (-1)) hx (hd 98) (by decide) rfl ?_
      refine r_jn2 201 (fun v36 M37 => [(0, .ref t), (2, .int v2), (3, .int v36)]) (fun v36 M37 => []) (fun v36 M37 => M37) (fun v36 M37 => ?_) (fun j38 hj39 => ?_)
      · skip
        refine r_aload_n (pc' := 202) hx (hd 128) rfl 0 rfl rfl ?_
        refine r_iload_n (pc' := 203) hx (hd 129) rfl 1 rfl rfl ?_
        refine r_iload_n (pc' := 204) hx (hd 130) rfl 2 rfl rfl ?_
        refine r_callVU (pc' := 207) (As := [.int v2, .int v36]) (rest := []) hx (hd 131) md_X12_peg mi_X12_peg ms_X12_peg ml_12_515 (cX12_peg (xl x) w hL t ht v2 v36 M37) ht rfl (by decide) ⟨Nat.le_of_ble_eq_true rfl, Nat.le_of_ble_eq_true rfl⟩ rfl rfl (Nat.le_of_ble_eq_true rfl) rfl (fun M40 => ?_)
        refine r_iload_n (pc' := 208) hx (hd 132) rfl 2 rfl rfl ?_
        exact r_iret hx (hd 133) rfl rfl hz
      refine r_icmp_ne (tgt := 201) (pc' := 157) hx (hd 99) (by decide) (fun _ => ?_) rfl (fun _ => ?_)
      · skip
        refine r_sub [1, 2, 0] rfl ?_
        exact hj39 v33 M34
      · skip
        refine r_iload_n (pc' := 158) hx (hd 100) rfl 0 rfl rfl ?_
        refine r_aload_n (pc' := 159) hx (hd 101) rfl 1 rfl rfl ?_
        refine r_get (pc' := 162) (v := .ref (t + 2)) hx (hd 102) fl_12_13 ht rfl (by decide) rfl ?_
        have h41 := hL.1 _ _ _ ht 3 2 20 5594 rfl
        refine r_bipush (pc' := 164) (v := 12) hx (hd 103) (by decide) rfl ?_
        refine r_iald (pc' := 165) (k := 12) hx (hd 104) h41 (by decide) (by decide) rfl ?_
        refine r_bipush (pc' := 167) (v := 31) hx (hd 105) (by decide) rfl ?_
        refine r_jn1 175 (fun v42 => [(0, .ref t), (2, .int v2)]) (fun v42 => [.int v42, .int v33]) (fun v42 => M34) (fun v42 => ?_) (fun j43 hj44 => ?_)
        · skip
          refine r_iadd (pc' := 176) hx (hd 110) rfl ?_
          refine r_nmI (fun v45 => ?_)
          refine r_istore_n (pc' := 177) (L' := [(3, .int v45), (0, .ref t), (2, .int v2)]) hx (hd 111) rfl (by decide) rfl rfl ?_
          refine r_aload_n (pc' := 178) hx (hd 112) rfl 1 rfl rfl ?_
          refine r_get (pc' := 181) (v := .ref (t + 2)) hx (hd 113) fl_12_13 ht rfl (by decide) rfl ?_
          have h46 := hL.1 _ _ _ ht 3 2 20 5594 rfl
          refine r_bipush (pc' := 183) (v := 12) hx (hd 114) (by decide) rfl ?_
          refine r_iconst (pc' := 184) (v := 0) hx (hd 115) (by decide) rfl ?_
          refine r_iast (pc' := 185) (k := 12) hx (hd 116) h46 (by decide) (by decide) rfl (fun M47 => ?_)
          refine r_aload_n (pc' := 186) hx (hd 117) rfl 1 rfl rfl ?_
          refine r_get (pc' := 189) (v := .ref (t + 2)) hx (hd 118) fl_12_13 ht rfl (by decide) rfl ?_
          have h48 := hL.1 _ _ _ ht 3 2 20 5594 rfl
          refine r_bipush (pc' := 191) (v := 13) hx (hd 119) (by decide) rfl ?_
          refine r_iconst (pc' := 192) (v := 0) hx (hd 120) (by decide) rfl ?_
          refine r_iast (pc' := 193) (k := 13) hx (hd 121) h48 (by decide) (by decide) rfl (fun M49 => ?_)
          refine r_aload_n (pc' := 194) hx (hd 122) rfl 1 rfl rfl ?_
          refine r_iconst (pc' := 195) (v := 1) hx (hd 123) (by decide) rfl ?_
          refine r_iload_n (pc' := 196) hx (hd 124) rfl 2 rfl rfl ?_
          refine r_isub (pc' := 197) hx (hd 125) rfl ?_
          refine r_iload_n (pc' := 198) hx (hd 126) rfl 2 rfl rfl ?_
          refine r_callVU (pc' := 201) (As := [.int (1 - v2), .int v2]) (rest := []) hx (hd 127) md_X12_turnTo mi_X12_turnTo ms_X12_turnTo ml_12_518 (cX12_turnTo (xl x) w hL t ht (1 - v2) v2 M49) ht rfl (by decide) ⟨Nat.le_of_ble_eq_true rfl, Nat.le_of_ble_eq_true rfl⟩ rfl rfl (Nat.le_of_ble_eq_true rfl) rfl (fun M50 => ?_)
          refine r_sub [1, 2, 0] rfl ?_
          exact hj39 v45 M50
        refine r_icmp_ne (tgt := 174) (pc' := 170) hx (hd 106) (by decide) (fun _ => ?_) rfl (fun _ => ?_)
        · skip
          refine r_iconst (pc' := 175) (v := 1) hx (hd 109) (by decide) rfl ?_
          refine r_sub [1, 2] rfl ?_
          exact hj44 1
        · skip
          refine r_iconst (pc' := 171) (v := 0) hx (hd 107) (by decide) rfl ?_
          refine r_goto (tgt := 175) hx (hd 108) (by decide) ?_
          refine r_sub [1, 2] rfl ?_
          exact hj44 0
    refine r_icmp_ne (tgt := 123) (pc' := 119) hx (hd 74) (by decide) (fun _ => ?_) rfl (fun _ => ?_)
    · skip
      refine r_iconst (pc' := 124) (v := 0) hx (hd 77) (by decide) rfl ?_
      refine r_sub [1, 2] rfl ?_
      exact hj27 0
    · skip
      refine r_iconst (pc' := 120) (v := 2) hx (hd 75) (by decide) rfl ?_
      refine r_goto (tgt := 124) hx (hd 76) (by decide) ?_
      refine r_sub [1, 2] rfl ?_
      exact hj27 2
  refine r_icmp_ne (tgt := 104) (pc' := 85) hx (hd 53) (by decide) (fun _ => ?_) rfl (fun _ => ?_)
  · skip
    refine r_iconst (pc' := 105) (v := 0) hx (hd 66) (by decide) rfl ?_
    refine r_sub [1, 0] rfl ?_
    exact hj23 0 M17
  · skip
    refine r_aload_n (pc' := 86) hx (hd 54) rfl 1 rfl rfl ?_
    refine r_iconst (pc' := 87) (v := 1) hx (hd 55) (by decide) rfl ?_
    refine r_iconst (pc' := 88) (v := (-1)) hx (hd 56) (by decide) rfl ?_
    refine r_iconst (pc' := 89) (v := (-1)) hx (hd 57) (by decide) rfl ?_
    refine r_aload_n (pc' := 90) hx (hd 58) rfl 1 rfl rfl ?_
    refine r_get (pc' := 93) (v := .ref (t + 2)) hx (hd 59) fl_12_13 ht rfl (by decide) rfl ?_
    have h51 := hL.1 _ _ _ ht 3 2 20 5594 rfl
    refine r_bipush (pc' := 95) (v := 13) hx (hd 60) (by decide) rfl ?_
    refine r_iald (pc' := 96) (k := 13) hx (hd 61) h51 (by decide) (by decide) rfl ?_
    refine r_iconst (pc' := 97) (v := (-1)) hx (hd 62) (by decide) rfl ?_
    refine r_iconst (pc' := 98) (v := 2) hx (hd 63) (by decide) rfl ?_
    refine r_callVI (pc' := 101) (As := [.int 1, .int (-1), .int (-1), .int (mI M17 (t + 2) 13), .int (-1), .int 2]) (rest := []) hx (hd 64) md_X12_countsAs mi_X12_countsAs ms_X12_countsAs ml_12_458 (cX12_countsAs (xl x) w hL t ht 1 (-1) (-1) (mI M17 (t + 2) 13) (-1) 2 M17) ht rfl (by decide) ⟨Nat.le_of_ble_eq_true rfl, Nat.le_of_ble_eq_true rfl⟩ rfl rfl (Nat.le_of_ble_eq_true rfl) (fun r53 => .int r53 :: []) (fun _ => rfl) rfl (fun r53 M52 => ?_)
    refine r_goto (tgt := 105) hx (hd 65) (by decide) ?_
    refine r_sub [1, 0] rfl ?_
    exact hj23 r53 M52
abbrev yX12_playNow : MethodName := ({ cls := "CribbageRoomModel", name := "playNow", desc := "(II)I" } : Jvm.MethodName)
def tbX12_playNow : List (Nat × Instr × Nat) := [(0, .iload_n 1, 1), (1, .invokestatic 217, 3), (4, .ifCond .eq 10, 3), (7, .iload_n 2, 1), (8, .invokestatic 227, 3), (11, .ifCond .ne 5, 3), (14, .iconst (-1), 1), (15, .ireturn, 1), (16, .aload_n 0, 1), (17, .getfield 13, 3), (20, .bipush 9, 2), (22, .iaload, 1), (23, .iconst 2, 1), (24, .if_icmp .ne 23, 3), (27, .aload_n 0, 1), (28, .getfield 13, 3), (31, .bipush 14, 2), (33, .iaload, 1), (34, .iload_n 2, 1), (35, .if_icmp .ne 12, 3), (38, .aload_n 0, 1), (39, .iload_n 1, 1), (40, .iload_n 2, 1), (41, .invokevirtual 509, 3), (44, .ifCond .ne 6, 3), (47, .bipush (-3), 2), (49, .ireturn, 1), (50, .aload_n 0, 1), (51, .iconst 2, 1), (52, .invokevirtual 500, 3), (55, .aload_n 0, 1), (56, .iload_n 1, 1), (57, .invokevirtual 539, 3), (60, .ireturn, 1)]
theorem dX12_playNow : ∀ q ∈ tbX12_playNow, decode prog_14_method_93_code q.1 = .ok q.2 := by decide +kernel
set_option maxRecDepth 20000 in
theorem cX12_playNow (l : Launch) (w : WX) (hL : Lay w) (t : Nat) (ht : Wat w t 12 0) (p1 : Int32) (p2 : Int32) (M : Mem) : Ct l w yX12_playNow prog_14_method_93_code 3 (Option.some FieldType.int) 9 215 evIM emM [.ref t, .int p1, .int p2] M (FX12_playNow t p1 p2 M) := by
  refine ct_of (by decide) (Nat.le_of_ble_eq_true rfl) (fun x hl hx hb hz => ?_)
  subst hl
  have hd : ∀ i, DAt (xc x).code (tbX12_playNow[i]?) := fun i => by rw [hb]; exact dat_of dX12_playNow i
  show C x w (Qn x w evIM emM) 3 0 [(0, .ref t), (1, .int p1), (2, .int p2)] [] M (FX12_playNow t p1 p2 M)
  unfold FX12_playNow
  refine r_iload_n (pc' := 1) hx (hd 0) rfl 1 rfl rfl ?_
  refine r_callS (pc' := 4) (As := [.int p1]) (rest := []) hx (hd 1) md_X12_isCard mst_X12_isCard ml_12_217 (cX12_isCard (xl x) w hL p1 M) ⟨Nat.le_of_ble_eq_true rfl, Nat.le_of_ble_eq_true rfl⟩ rfl rfl (Nat.le_of_ble_eq_true rfl) (fun r1 => .int r1 :: []) (fun _ => M) (fun _ => ⟨rfl, rfl⟩) rfl (fun r1 _ => ?_)
  refine r_jn0 14 ([]) ([]) (M) (?_) (fun j2 hj3 => ?_)
  · skip
    refine r_iconst (pc' := 15) (v := (-1)) hx (hd 6) (by decide) rfl ?_
    exact r_iret hx (hd 7) rfl rfl hz
  refine r_if_eq (tgt := 14) (pc' := 7) hx (hd 2) (by decide) (fun _ => ?_) rfl (fun _ => ?_)
  · skip
    refine r_sub [] rfl ?_
    exact hj3
  · skip
    refine r_iload_n (pc' := 8) hx (hd 3) rfl 2 rfl rfl ?_
    refine r_callS (pc' := 11) (As := [.int p2]) (rest := []) hx (hd 4) md_X12_isPlayer mst_X12_isPlayer ml_12_227 (cX12_isPlayer (xl x) w hL p2 M) ⟨Nat.le_of_ble_eq_true rfl, Nat.le_of_ble_eq_true rfl⟩ rfl rfl (Nat.le_of_ble_eq_true rfl) (fun r4 => .int r4 :: []) (fun _ => M) (fun _ => ⟨rfl, rfl⟩) rfl (fun r4 _ => ?_)
    refine r_if_ne (tgt := 16) (pc' := 14) hx (hd 5) (by decide) (fun _ => ?_) rfl (fun _ => ?_)
    · skip
      refine r_aload_n (pc' := 17) hx (hd 8) rfl 0 rfl rfl ?_
      refine r_get (pc' := 20) (v := .ref (t + 2)) hx (hd 9) fl_12_13 ht rfl (by decide) rfl ?_
      have h5 := hL.1 _ _ _ ht 3 2 20 5594 rfl
      refine r_bipush (pc' := 22) (v := 9) hx (hd 10) (by decide) rfl ?_
      refine r_iald (pc' := 23) (k := 9) hx (hd 11) h5 (by decide) (by decide) rfl ?_
      refine r_iconst (pc' := 24) (v := 2) hx (hd 12) (by decide) rfl ?_
      refine r_jn1 47 (fun M6 => []) (fun M6 => []) (fun M6 => M6) (fun M6 => ?_) (fun j7 hj8 => ?_)
      · skip
        refine r_bipush (pc' := 49) (v := (-3)) hx (hd 25) (by decide) rfl ?_
        exact r_iret hx (hd 26) rfl rfl hz
      refine r_icmp_ne (tgt := 47) (pc' := 27) hx (hd 13) (by decide) (fun _ => ?_) rfl (fun _ => ?_)
      · skip
        refine r_sub [] rfl ?_
        exact hj8 M
      · skip
        refine r_aload_n (pc' := 28) hx (hd 14) rfl 0 rfl rfl ?_
        refine r_get (pc' := 31) (v := .ref (t + 2)) hx (hd 15) fl_12_13 ht rfl (by decide) rfl ?_
        have h9 := hL.1 _ _ _ ht 3 2 20 5594 rfl
        refine r_bipush (pc' := 33) (v := 14) hx (hd 16) (by decide) rfl ?_
        refine r_iald (pc' := 34) (k := 14) hx (hd 17) h9 (by decide) (by decide) rfl ?_
        refine r_iload_n (pc' := 35) hx (hd 18) rfl 2 rfl rfl ?_
        refine r_icmp_ne (tgt := 47) (pc' := 38) hx (hd 19) (by decide) (fun _ => ?_) rfl (fun _ => ?_)
        · skip
          refine r_sub [] rfl ?_
          exact hj8 M
        · skip
          refine r_aload_n (pc' := 39) hx (hd 20) rfl 0 rfl rfl ?_
          refine r_iload_n (pc' := 40) hx (hd 21) rfl 1 rfl rfl ?_
          refine r_iload_n (pc' := 41) hx (hd 22) rfl 2 rfl rfl ?_
          refine r_callVI (pc' := 44) (As := [.int p1, .int p2]) (rest := []) hx (hd 23) md_X12_canPlay mi_X12_canPlay ms_X12_canPlay ml_12_509 (cX12_canPlay (xl x) w hL t ht p1 p2 M) ht rfl (by decide) ⟨Nat.le_of_ble_eq_true rfl, Nat.le_of_ble_eq_true rfl⟩ rfl rfl (Nat.le_of_ble_eq_true rfl) (fun r11 => .int r11 :: []) (fun _ => rfl) rfl (fun r11 M10 => ?_)
          refine r_if_ne (tgt := 50) (pc' := 47) hx (hd 24) (by decide) (fun _ => ?_) rfl (fun _ => ?_)
          · skip
            refine r_aload_n (pc' := 51) hx (hd 27) rfl 0 rfl rfl ?_
            refine r_iconst (pc' := 52) (v := 2) hx (hd 28) (by decide) rfl ?_
            refine r_callVU (pc' := 55) (As := [.int 2]) (rest := []) hx (hd 29) md_X12_remember mi_X12_remember ms_X12_remember ml_12_500 (cX12_remember (xl x) w hL t ht 2 M10) ht rfl (by decide) ⟨Nat.le_of_ble_eq_true rfl, Nat.le_of_ble_eq_true rfl⟩ rfl rfl (Nat.le_of_ble_eq_true rfl) rfl (fun M12 => ?_)
            refine r_aload_n (pc' := 56) hx (hd 30) rfl 0 rfl rfl ?_
            refine r_iload_n (pc' := 57) hx (hd 31) rfl 1 rfl rfl ?_
            refine r_callVI (pc' := 60) (As := [.int p1]) (rest := []) hx (hd 32) md_X12_playIt mi_X12_playIt ms_X12_playIt ml_12_539 (cX12_playIt (xl x) w hL t ht p1 M12) ht rfl (by decide) ⟨Nat.le_of_ble_eq_true rfl, Nat.le_of_ble_eq_true rfl⟩ rfl rfl (Nat.le_of_ble_eq_true rfl) (fun r14 => .int r14 :: []) (fun _ => rfl) rfl (fun r14 M13 => ?_)
            exact r_iret hx (hd 33) rfl rfl hz
          · skip
            refine r_sub [] rfl ?_
            exact hj8 M10
    · skip
      refine r_sub [] rfl ?_
      exact hj3
abbrev yX12_play : MethodName := ({ cls := "CribbageRoomModel", name := "play", desc := "(II)I" } : Jvm.MethodName)
def tbX12_play : List (Nat × Instr × Nat) := [(0, .aload_n 0, 1), (1, .iconst 0, 1), (2, .putfield 188, 3), (5, .aload_n 0, 1), (6, .aload_n 0, 1), (7, .iload_n 1, 1), (8, .iload_n 2, 1), (9, .invokevirtual 542, 3), (12, .invokevirtual 197, 3), (15, .ireturn, 1)]
theorem dX12_play : ∀ q ∈ tbX12_play, decode prog_14_method_94_code q.1 = .ok q.2 := by decide +kernel
set_option maxRecDepth 20000 in
theorem cX12_play (l : Launch) (w : WX) (hL : Lay w) (t : Nat) (ht : Wat w t 12 0) (p1 : Int32) (p2 : Int32) (M : Mem) : Ct l w yX12_play prog_14_method_94_code 3 (Option.some FieldType.int) 10 237 evIM emM [.ref t, .int p1, .int p2] M (FX12_play t p1 p2 M) := by
  refine ct_of (by decide) (Nat.le_of_ble_eq_true rfl) (fun x hl hx hb hz => ?_)
  subst hl
  have hd : ∀ i, DAt (xc x).code (tbX12_play[i]?) := fun i => by rw [hb]; exact dat_of dX12_play i
  show C x w (Qn x w evIM emM) 3 0 [(0, .ref t), (1, .int p1), (2, .int p2)] [] M (FX12_play t p1 p2 M)
  unfold FX12_play
  refine r_aload_n (pc' := 1) hx (hd 0) rfl 0 rfl rfl ?_
  refine r_iconst (pc' := 2) (v := 0) hx (hd 1) (by decide) rfl ?_
  refine r_putI (pc' := 5) hx (hd 2) fp_12_188 ht rfl (by decide) rfl (fun M1 => ?_)
  refine r_aload_n (pc' := 6) hx (hd 3) rfl 0 rfl rfl ?_
  refine r_aload_n (pc' := 7) hx (hd 4) rfl 0 rfl rfl ?_
  refine r_iload_n (pc' := 8) hx (hd 5) rfl 1 rfl rfl ?_
  refine r_iload_n (pc' := 9) hx (hd 6) rfl 2 rfl rfl ?_
  refine r_callVI (pc' := 12) (As := [.int p1, .int p2]) (rest := [.ref t]) hx (hd 7) md_X12_playNow mi_X12_playNow ms_X12_playNow ml_12_542 (cX12_playNow (xl x) w hL t ht p1 p2 M1) ht rfl (by decide) ⟨Nat.le_of_ble_eq_true rfl, Nat.le_of_ble_eq_true rfl⟩ rfl rfl (Nat.le_of_ble_eq_true rfl) (fun r3 => .int r3 :: [.ref t]) (fun _ => rfl) rfl (fun r3 M2 => ?_)
  refine r_callVI (pc' := 15) (As := [.int r3]) (rest := []) hx (hd 8) md_X12_tell mi_X12_tell ms_X12_tell ml_12_197 (cX12_tell (xl x) w hL t ht r3 M2) ht rfl (by decide) ⟨Nat.le_of_ble_eq_true rfl, Nat.le_of_ble_eq_true rfl⟩ rfl rfl (Nat.le_of_ble_eq_true rfl) (fun r5 => .int r5 :: []) (fun _ => rfl) rfl (fun r5 M4 => ?_)
  exact r_iret hx (hd 9) rfl rfl hz
abbrev yX12_layCounts : MethodName := ({ cls := "CribbageRoomModel", name := "layCounts", desc := "(I)V" } : Jvm.MethodName)
def tbX12_layCounts : List (Nat × Instr × Nat) := [(0, .iconst 0, 1), (1, .istore_n 2, 1), (2, .iload_n 2, 1), (3, .bipush 52, 2), (5, .if_icmp .ge 20, 3), (8, .aload_n 0, 1), (9, .getfield 116, 3), (12, .iload_n 2, 1), (13, .aload_n 0, 1), (14, .iload_n 2, 1), (15, .invokevirtual 221, 3), (18, .iastore, 1), (19, .iinc 2 1, 3), (22, .goto (-20), 3), (25, .iconst 2, 1), (26, .istore_n 2, 1), (27, .iload_n 2, 1), (28, .bipush 6, 2), (30, .if_icmp .ge 41, 3), (33, .aload_n 0, 1), (34, .getfield 119, 3), (37, .iload_n 2, 1), (38, .aload_n 0, 1), (39, .iconst 1, 1), (40, .iconst (-1), 1), (41, .iconst (-1), 1), (42, .iload_n 2, 1), (43, .iload_n 1, 1), (44, .iconst 2, 1), (45, .invokevirtual 458, 3), (48, .iastore, 1), (49, .aload_n 0, 1), (50, .getfield 125, 3), (53, .iload_n 2, 1), (54, .aload_n 0, 1), (55, .iconst 3, 1), (56, .iconst (-1), 1), (57, .iconst (-1), 1), (58, .iload_n 2, 1), (59, .iload_n 1, 1), (60, .iload_n 2, 1), (61, .invokevirtual 458, 3), (64, .iastore, 1), (65, .iinc 2 1, 3), (68, .goto (-41), 3), (71, .iconst 0, 1), (72, .istore_n 2, 1), (73, .iload_n 2, 1), (74, .bipush 13, 2), (76, .if_icmp .ge 25, 3), (79, .aload_n 0, 1), (80, .getfield 122, 3), (83, .iload_n 2, 1), (84, .aload_n 0, 1), (85, .iconst 2, 1), (86, .iload_n 2, 1), (87, .iconst (-1), 1), (88, .iconst 2, 1), (89, .iload_n 1, 1), (90, .iconst 2, 1), (91, .invokevirtual 458, 3), (94, .iastore, 1), (95, .iinc 2 1, 3), (98, .goto (-25), 3), (101, .iconst 0, 1), (102, .istore_n 2, 1), (103, .iload_n 2, 1), (104, .iconst 4, 1), (105, .if_icmp .ge 59, 3), (108, .aload_n 0, 1), (109, .getfield 128, 3), (112, .iload_n 2, 1), (113, .aload_n 0, 1), (114, .iconst 4, 1), (115, .iconst (-1), 1), (116, .iload_n 2, 1), (117, .iconst 4, 1), (118, .iload_n 1, 1), (119, .iconst 4, 1), (120, .invokevirtual 458, 3), (123, .iastore, 1), (124, .aload_n 0, 1), (125, .getfield 128, 3), (128, .iconst 4, 1), (129, .iload_n 2, 1), (130, .iadd, 1), (131, .aload_n 0, 1), (132, .iconst 4, 1), (133, .iconst (-1), 1), (134, .iload_n 2, 1), (135, .iconst 5, 1), (136, .iload_n 1, 1), (137, .iconst 5, 1), (138, .invokevirtual 458, 3), (141, .iastore, 1), (142, .aload_n 0, 1), (143, .getfield 131, 3), (146, .iload_n 2, 1), (147, .aload_n 0, 1), (148, .iconst 5, 1), (149, .iconst (-1), 1), (150, .iload_n 2, 1), (151, .iconst (-1), 1), (152, .iload_n 1, 1), (153, .iconst 1, 1), (154, .invokevirtual 458, 3), (157, .iastore, 1), (158, .iinc 2 1, 3), (161, .goto (-58), 3), (164, .return_, 1)]
theorem dX12_layCounts : ∀ q ∈ tbX12_layCounts, decode prog_14_method_68_code q.1 = .ok q.2 := by decide +kernel
set_option maxRecDepth 20000 in
theorem cX12_layCounts (l : Launch) (w : WX) (hL : Lay w) (t : Nat) (ht : Wat w t 12 0) (p1 : Int32) (M : Mem) : Ct l w yX12_layCounts prog_14_method_68_code 3 (Option.none : Option FieldType) 5 129 evU emU [.ref t, .int p1] M (FX12_layCounts t p1 M) := by
  refine ct_of (by decide) (Nat.le_of_ble_eq_true rfl) (fun x hl hx hb hz => ?_)
  subst hl
  have hd : ∀ i, DAt (xc x).code (tbX12_layCounts[i]?) := fun i => by rw [hb]; exact dat_of dX12_layCounts i
  show C x w (Qn x w evU emU) 3 0 [(0, .ref t), (1, .int p1)] [] M (FX12_layCounts t p1 M)
  unfold FX12_layCounts
  refine r_iconst (pc' := 1) (v := 0) hx (hd 0) (by decide) rfl ?_
  refine r_istore_n (pc' := 2) (L' := [(2, .int 0), (0, .ref t), (1, .int p1)]) hx (hd 1) rfl (by decide) rfl rfl ?_
  refine r_sub [1, 2, 0] rfl ?_
  refine r_wl2 (fun v1 M2 => [(0, .ref t), (1, .int p1), (2, .int v1)]) (fun v1 M2 => []) (fun v1 M2 => M2) (fun v1 M2 rec3 ih4 => ?_) fuel 0 M
  refine r_iload_n (pc' := 3) hx (hd 2) rfl 2 rfl rfl ?_
  refine r_bipush (pc' := 5) (v := 52) hx (hd 3) (by decide) rfl ?_
  refine r_icmp_ge (tgt := 25) (pc' := 8) hx (hd 4) (by decide) (fun _ => ?_) rfl (fun _ => ?_)
  · skip
    refine r_iconst (pc' := 26) (v := 2) hx (hd 14) (by decide) rfl ?_
    refine r_istore_n (pc' := 27) (L' := [(2, .int 2), (0, .ref t), (1, .int p1)]) hx (hd 15) rfl (by decide) rfl rfl ?_
    refine r_sub [1, 2, 0] rfl ?_
    refine r_wl2 (fun v5 M6 => [(0, .ref t), (1, .int p1), (2, .int v5)]) (fun v5 M6 => []) (fun v5 M6 => M6) (fun v5 M6 rec7 ih8 => ?_) fuel 2 M2
    refine r_iload_n (pc' := 28) hx (hd 16) rfl 2 rfl rfl ?_
    refine r_bipush (pc' := 30) (v := 6) hx (hd 17) (by decide) rfl ?_
    refine r_icmp_ge (tgt := 71) (pc' := 33) hx (hd 18) (by decide) (fun _ => ?_) rfl (fun _ => ?_)
    · skip
      refine r_iconst (pc' := 72) (v := 0) hx (hd 45) (by decide) rfl ?_
      refine r_istore_n (pc' := 73) (L' := [(2, .int 0), (0, .ref t), (1, .int p1)]) hx (hd 46) rfl (by decide) rfl rfl ?_
      refine r_sub [1, 2, 0] rfl ?_
      refine r_wl2 (fun v9 M10 => [(0, .ref t), (1, .int p1), (2, .int v9)]) (fun v9 M10 => []) (fun v9 M10 => M10) (fun v9 M10 rec11 ih12 => ?_) fuel 0 M6
      refine r_iload_n (pc' := 74) hx (hd 47) rfl 2 rfl rfl ?_
      refine r_bipush (pc' := 76) (v := 13) hx (hd 48) (by decide) rfl ?_
      refine r_icmp_ge (tgt := 101) (pc' := 79) hx (hd 49) (by decide) (fun _ => ?_) rfl (fun _ => ?_)
      · skip
        refine r_iconst (pc' := 102) (v := 0) hx (hd 64) (by decide) rfl ?_
        refine r_istore_n (pc' := 103) (L' := [(2, .int 0), (0, .ref t), (1, .int p1)]) hx (hd 65) rfl (by decide) rfl rfl ?_
        refine r_sub [1, 2, 0] rfl ?_
        refine r_wl2 (fun v13 M14 => [(0, .ref t), (1, .int p1), (2, .int v13)]) (fun v13 M14 => []) (fun v13 M14 => M14) (fun v13 M14 rec15 ih16 => ?_) fuel 0 M10
        refine r_iload_n (pc' := 104) hx (hd 66) rfl 2 rfl rfl ?_
        refine r_iconst (pc' := 105) (v := 4) hx (hd 67) (by decide) rfl ?_
        refine r_icmp_ge (tgt := 164) (pc' := 108) hx (hd 68) (by decide) (fun _ => ?_) rfl (fun _ => ?_)
        · skip
          exact r_vret hx (hd 109) rfl rfl hz
        · skip
          refine r_aload_n (pc' := 109) hx (hd 69) rfl 0 rfl rfl ?_
          refine r_get (pc' := 112) (v := .ref (t + 25)) hx (hd 70) fl_12_128 ht rfl (by decide) rfl ?_
          have h17 := hL.1 _ _ _ ht 45 25 20 8 rfl
          refine r_iload_n (pc' := 113) hx (hd 71) rfl 2 rfl rfl ?_
          refine r_aload_n (pc' := 114) hx (hd 72) rfl 0 rfl rfl ?_
          refine r_iconst (pc' := 115) (v := 4) hx (hd 73) (by decide) rfl ?_
          refine r_iconst (pc' := 116) (v := (-1)) hx (hd 74) (by decide) rfl ?_
          refine r_iload_n (pc' := 117) hx (hd 75) rfl 2 rfl rfl ?_
          refine r_iconst (pc' := 118) (v := 4) hx (hd 76) (by decide) rfl ?_
          refine r_iload_n (pc' := 119) hx (hd 77) rfl 1 rfl rfl ?_
          refine r_iconst (pc' := 120) (v := 4) hx (hd 78) (by decide) rfl ?_
          refine r_callVI (pc' := 123) (As := [.int 4, .int (-1), .int v13, .int 4, .int p1, .int 4]) (rest := [.int v13, .ref (t + 25)]) hx (hd 79) md_X12_countsAs mi_X12_countsAs ms_X12_countsAs ml_12_458 (cX12_countsAs (xl x) w hL t ht 4 (-1) v13 4 p1 4 M14) ht rfl (by decide) ⟨Nat.le_of_ble_eq_true rfl, Nat.le_of_ble_eq_true rfl⟩ rfl rfl (Nat.le_of_ble_eq_true rfl) (fun r19 => .int r19 :: [.int v13, .ref (t + 25)]) (fun _ => rfl) rfl (fun r19 M18 => ?_)
          refine r_gd (fun h21 => ?_)
          refine r_iast (pc' := 124) (k := ix v13) hx (hd 80) h17 h21 rfl rfl (fun M20 => ?_)
          refine r_aload_n (pc' := 125) hx (hd 81) rfl 0 rfl rfl ?_
          refine r_get (pc' := 128) (v := .ref (t + 25)) hx (hd 82) fl_12_128 ht rfl (by decide) rfl ?_
          have h22 := hL.1 _ _ _ ht 45 25 20 8 rfl
          refine r_iconst (pc' := 129) (v := 4) hx (hd 83) (by decide) rfl ?_
          refine r_iload_n (pc' := 130) hx (hd 84) rfl 2 rfl rfl ?_
          refine r_iadd (pc' := 131) hx (hd 85) rfl ?_
          refine r_aload_n (pc' := 132) hx (hd 86) rfl 0 rfl rfl ?_
          refine r_iconst (pc' := 133) (v := 4) hx (hd 87) (by decide) rfl ?_
          refine r_iconst (pc' := 134) (v := (-1)) hx (hd 88) (by decide) rfl ?_
          refine r_iload_n (pc' := 135) hx (hd 89) rfl 2 rfl rfl ?_
          refine r_iconst (pc' := 136) (v := 5) hx (hd 90) (by decide) rfl ?_
          refine r_iload_n (pc' := 137) hx (hd 91) rfl 1 rfl rfl ?_
          refine r_iconst (pc' := 138) (v := 5) hx (hd 92) (by decide) rfl ?_
          refine r_callVI (pc' := 141) (As := [.int 4, .int (-1), .int v13, .int 5, .int p1, .int 5]) (rest := [.int (4 + v13), .ref (t + 25)]) hx (hd 93) md_X12_countsAs mi_X12_countsAs ms_X12_countsAs ml_12_458 (cX12_countsAs (xl x) w hL t ht 4 (-1) v13 5 p1 5 M20) ht rfl (by decide) ⟨Nat.le_of_ble_eq_true rfl, Nat.le_of_ble_eq_true rfl⟩ rfl rfl (Nat.le_of_ble_eq_true rfl) (fun r24 => .int r24 :: [.int (4 + v13), .ref (t + 25)]) (fun _ => rfl) rfl (fun r24 M23 => ?_)
          refine r_gd (fun h26 => ?_)
          refine r_iast (pc' := 142) (k := ix (4 + v13)) hx (hd 94) h22 h26 rfl rfl (fun M25 => ?_)
          refine r_aload_n (pc' := 143) hx (hd 95) rfl 0 rfl rfl ?_
          refine r_get (pc' := 146) (v := .ref (t + 26)) hx (hd 96) fl_12_131 ht rfl (by decide) rfl ?_
          have h27 := hL.1 _ _ _ ht 46 26 20 4 rfl
          refine r_iload_n (pc' := 147) hx (hd 97) rfl 2 rfl rfl ?_
          refine r_aload_n (pc' := 148) hx (hd 98) rfl 0 rfl rfl ?_
          refine r_iconst (pc' := 149) (v := 5) hx (hd 99) (by decide) rfl ?_
          refine r_iconst (pc' := 150) (v := (-1)) hx (hd 100) (by decide) rfl ?_
          refine r_iload_n (pc' := 151) hx (hd 101) rfl 2 rfl rfl ?_
          refine r_iconst (pc' := 152) (v := (-1)) hx (hd 102) (by decide) rfl ?_
          refine r_iload_n (pc' := 153) hx (hd 103) rfl 1 rfl rfl ?_
          refine r_iconst (pc' := 154) (v := 1) hx (hd 104) (by decide) rfl ?_
          refine r_callVI (pc' := 157) (As := [.int 5, .int (-1), .int v13, .int (-1), .int p1, .int 1]) (rest := [.int v13, .ref (t + 26)]) hx (hd 105) md_X12_countsAs mi_X12_countsAs ms_X12_countsAs ml_12_458 (cX12_countsAs (xl x) w hL t ht 5 (-1) v13 (-1) p1 1 M25) ht rfl (by decide) ⟨Nat.le_of_ble_eq_true rfl, Nat.le_of_ble_eq_true rfl⟩ rfl rfl (Nat.le_of_ble_eq_true rfl) (fun r29 => .int r29 :: [.int v13, .ref (t + 26)]) (fun _ => rfl) rfl (fun r29 M28 => ?_)
          refine r_gd (fun h31 => ?_)
          refine r_iast (pc' := 158) (k := ix v13) hx (hd 106) h27 h31 rfl rfl (fun M30 => ?_)
          refine r_iinc (pc' := 161) (v := 1) hx (hd 107) 2 rfl (by decide) (by decide) (fun v32 => [(2, .int v32), (0, .ref t), (1, .int p1)]) (fun _ => rfl) rfl (fun v32 => ?_)
          refine r_goto (tgt := 103) hx (hd 108) (by decide) ?_
          refine r_sub [1, 2, 0] rfl ?_
          exact ih16 v32 M30
      · skip
        refine r_aload_n (pc' := 80) hx (hd 50) rfl 0 rfl rfl ?_
        refine r_get (pc' := 83) (v := .ref (t + 23)) hx (hd 51) fl_12_122 ht rfl (by decide) rfl ?_
        have h33 := hL.1 _ _ _ ht 43 23 20 13 rfl
        refine r_iload_n (pc' := 84) hx (hd 52) rfl 2 rfl rfl ?_
        refine r_aload_n (pc' := 85) hx (hd 53) rfl 0 rfl rfl ?_
        refine r_iconst (pc' := 86) (v := 2) hx (hd 54) (by decide) rfl ?_
        refine r_iload_n (pc' := 87) hx (hd 55) rfl 2 rfl rfl ?_
        refine r_iconst (pc' := 88) (v := (-1)) hx (hd 56) (by decide) rfl ?_
        refine r_iconst (pc' := 89) (v := 2) hx (hd 57) (by decide) rfl ?_
        refine r_iload_n (pc' := 90) hx (hd 58) rfl 1 rfl rfl ?_
        refine r_iconst (pc' := 91) (v := 2) hx (hd 59) (by decide) rfl ?_
        refine r_callVI (pc' := 94) (As := [.int 2, .int v9, .int (-1), .int 2, .int p1, .int 2]) (rest := [.int v9, .ref (t + 23)]) hx (hd 60) md_X12_countsAs mi_X12_countsAs ms_X12_countsAs ml_12_458 (cX12_countsAs (xl x) w hL t ht 2 v9 (-1) 2 p1 2 M10) ht rfl (by decide) ⟨Nat.le_of_ble_eq_true rfl, Nat.le_of_ble_eq_true rfl⟩ rfl rfl (Nat.le_of_ble_eq_true rfl) (fun r35 => .int r35 :: [.int v9, .ref (t + 23)]) (fun _ => rfl) rfl (fun r35 M34 => ?_)
        refine r_gd (fun h37 => ?_)
        refine r_iast (pc' := 95) (k := ix v9) hx (hd 61) h33 h37 rfl rfl (fun M36 => ?_)
        refine r_iinc (pc' := 98) (v := 1) hx (hd 62) 2 rfl (by decide) (by decide) (fun v38 => [(2, .int v38), (0, .ref t), (1, .int p1)]) (fun _ => rfl) rfl (fun v38 => ?_)
        refine r_goto (tgt := 73) hx (hd 63) (by decide) ?_
        refine r_sub [1, 2, 0] rfl ?_
        exact ih12 v38 M36
    · skip
      refine r_aload_n (pc' := 34) hx (hd 19) rfl 0 rfl rfl ?_
      refine r_get (pc' := 37) (v := .ref (t + 22)) hx (hd 20) fl_12_119 ht rfl (by decide) rfl ?_
      have h39 := hL.1 _ _ _ ht 42 22 20 6 rfl
      refine r_iload_n (pc' := 38) hx (hd 21) rfl 2 rfl rfl ?_
      refine r_aload_n (pc' := 39) hx (hd 22) rfl 0 rfl rfl ?_
      refine r_iconst (pc' := 40) (v := 1) hx (hd 23) (by decide) rfl ?_
      refine r_iconst (pc' := 41) (v := (-1)) hx (hd 24) (by decide) rfl ?_
      refine r_iconst (pc' := 42) (v := (-1)) hx (hd 25) (by decide) rfl ?_
      refine r_iload_n (pc' := 43) hx (hd 26) rfl 2 rfl rfl ?_
      refine r_iload_n (pc' := 44) hx (hd 27) rfl 1 rfl rfl ?_
      refine r_iconst (pc' := 45) (v := 2) hx (hd 28) (by decide) rfl ?_
      refine r_callVI (pc' := 48) (As := [.int 1, .int (-1), .int (-1), .int v5, .int p1, .int 2]) (rest := [.int v5, .ref (t + 22)]) hx (hd 29) md_X12_countsAs mi_X12_countsAs ms_X12_countsAs ml_12_458 (cX12_countsAs (xl x) w hL t ht 1 (-1) (-1) v5 p1 2 M6) ht rfl (by decide) ⟨Nat.le_of_ble_eq_true rfl, Nat.le_of_ble_eq_true rfl⟩ rfl rfl (Nat.le_of_ble_eq_true rfl) (fun r41 => .int r41 :: [.int v5, .ref (t + 22)]) (fun _ => rfl) rfl (fun r41 M40 => ?_)
      refine r_gd (fun h43 => ?_)
      refine r_iast (pc' := 49) (k := ix v5) hx (hd 30) h39 h43 rfl rfl (fun M42 => ?_)
      refine r_aload_n (pc' := 50) hx (hd 31) rfl 0 rfl rfl ?_
      refine r_get (pc' := 53) (v := .ref (t + 24)) hx (hd 32) fl_12_125 ht rfl (by decide) rfl ?_
      have h44 := hL.1 _ _ _ ht 44 24 20 6 rfl
      refine r_iload_n (pc' := 54) hx (hd 33) rfl 2 rfl rfl ?_
      refine r_aload_n (pc' := 55) hx (hd 34) rfl 0 rfl rfl ?_
      refine r_iconst (pc' := 56) (v := 3) hx (hd 35) (by decide) rfl ?_
      refine r_iconst (pc' := 57) (v := (-1)) hx (hd 36) (by decide) rfl ?_
      refine r_iconst (pc' := 58) (v := (-1)) hx (hd 37) (by decide) rfl ?_
      refine r_iload_n (pc' := 59) hx (hd 38) rfl 2 rfl rfl ?_
      refine r_iload_n (pc' := 60) hx (hd 39) rfl 1 rfl rfl ?_
      refine r_iload_n (pc' := 61) hx (hd 40) rfl 2 rfl rfl ?_
      refine r_callVI (pc' := 64) (As := [.int 3, .int (-1), .int (-1), .int v5, .int p1, .int v5]) (rest := [.int v5, .ref (t + 24)]) hx (hd 41) md_X12_countsAs mi_X12_countsAs ms_X12_countsAs ml_12_458 (cX12_countsAs (xl x) w hL t ht 3 (-1) (-1) v5 p1 v5 M42) ht rfl (by decide) ⟨Nat.le_of_ble_eq_true rfl, Nat.le_of_ble_eq_true rfl⟩ rfl rfl (Nat.le_of_ble_eq_true rfl) (fun r46 => .int r46 :: [.int v5, .ref (t + 24)]) (fun _ => rfl) rfl (fun r46 M45 => ?_)
      refine r_gd (fun h48 => ?_)
      refine r_iast (pc' := 65) (k := ix v5) hx (hd 42) h44 h48 rfl rfl (fun M47 => ?_)
      refine r_iinc (pc' := 68) (v := 1) hx (hd 43) 2 rfl (by decide) (by decide) (fun v49 => [(2, .int v49), (0, .ref t), (1, .int p1)]) (fun _ => rfl) rfl (fun v49 => ?_)
      refine r_goto (tgt := 27) hx (hd 44) (by decide) ?_
      refine r_sub [1, 2, 0] rfl ?_
      exact ih8 v49 M47
  · skip
    refine r_aload_n (pc' := 9) hx (hd 5) rfl 0 rfl rfl ?_
    refine r_get (pc' := 12) (v := .ref (t + 21)) hx (hd 6) fl_12_116 ht rfl (by decide) rfl ?_
    have h50 := hL.1 _ _ _ ht 41 21 20 52 rfl
    refine r_iload_n (pc' := 13) hx (hd 7) rfl 2 rfl rfl ?_
    refine r_aload_n (pc' := 14) hx (hd 8) rfl 0 rfl rfl ?_
    refine r_iload_n (pc' := 15) hx (hd 9) rfl 2 rfl rfl ?_
    refine r_callVI (pc' := 18) (As := [.int v1]) (rest := [.int v1, .ref (t + 21)]) hx (hd 10) md_X12_valueOf mi_X12_valueOf ms_X12_valueOf ml_12_221 (cX12_valueOf (xl x) w hL t ht v1 M2) ht rfl (by decide) ⟨Nat.le_of_ble_eq_true rfl, Nat.le_of_ble_eq_true rfl⟩ rfl rfl (Nat.le_of_ble_eq_true rfl) (fun r52 => .int r52 :: [.int v1, .ref (t + 21)]) (fun _ => rfl) rfl (fun r52 M51 => ?_)
    refine r_gd (fun h54 => ?_)
    refine r_iast (pc' := 19) (k := ix v1) hx (hd 11) h50 h54 rfl rfl (fun M53 => ?_)
    refine r_iinc (pc' := 22) (v := 1) hx (hd 12) 2 rfl (by decide) (by decide) (fun v55 => [(2, .int v55), (0, .ref t), (1, .int p1)]) (fun _ => rfl) rfl (fun v55 => ?_)
    refine r_goto (tgt := 2) hx (hd 13) (by decide) ?_
    refine r_sub [1, 2, 0] rfl ?_
    exact ih4 v55 M53
abbrev yX12_fifteensOf : MethodName := ({ cls := "CribbageRoomModel", name := "fifteensOf", desc := "()I" } : Jvm.MethodName)
def tbX12_fifteensOf : List (Nat × Instr × Nat) := [(0, .iconst 0, 1), (1, .istore_n 1, 1), (2, .iconst 3, 1), (3, .istore_n 2, 1), (4, .iload_n 2, 1), (5, .bipush 32, 2), (7, .if_icmp .ge 99, 3), (10, .iconst 0, 1), (11, .istore_n 3, 1), (12, .iconst 0, 1), (13, .istore 4, 2), (15, .iconst 0, 1), (16, .istore 5, 2), (18, .iload 5, 2), (20, .iconst 5, 1), (21, .if_icmp .ge 48, 3), (24, .iload_n 3, 1), (25, .iload_n 2, 1), (26, .iload 5, 2), (28, .invokestatic 462, 3), (31, .ifCond .eq 18, 3), (34, .aload_n 0, 1), (35, .getfield 116, 3), (38, .aload_n 0, 1), (39, .getfield 134, 3), (42, .iload 5, 2), (44, .iaload, 1), (45, .iaload, 1), (46, .goto 4, 3), (49, .iconst 0, 1), (50, .iadd, 1), (51, .istore_n 3, 1), (52, .iload 4, 2), (54, .iload_n 2, 1), (55, .iload 5, 2), (57, .ishr, 1), (58, .iconst 1, 1), (59, .iand, 1), (60, .iadd, 1), (61, .istore 4, 2), (63, .iinc 5 1, 3), (66, .goto (-48), 3), (69, .iload_n 1, 1), (70, .iload 4, 2), (72, .iconst 1, 1), (73, .if_icmp .le 24, 3), (76, .iload_n 3, 1), (77, .aload_n 0, 1), (78, .getfield 13, 3), (81, .bipush 7, 2), (83, .iaload, 1), (84, .if_icmp .ne 13, 3), (87, .aload_n 0, 1), (88, .getfield 119, 3), (91, .iload 4, 2), (93, .iaload, 1), (94, .goto 4, 3), (97, .iconst 0, 1), (98, .iadd, 1), (99, .istore_n 1, 1), (100, .iinc 2 1, 3), (103, .goto (-99), 3), (106, .iload_n 1, 1), (107, .ireturn, 1)]
theorem dX12_fifteensOf : ∀ q ∈ tbX12_fifteensOf, decode prog_14_method_69_code q.1 = .ok q.2 := by decide +kernel
set_option maxRecDepth 20000 in
theorem cX12_fifteensOf (l : Launch) (w : WX) (hL : Lay w) (t : Nat) (ht : Wat w t 12 0) (M : Mem) : Ct l w yX12_fifteensOf prog_14_method_69_code 6 (Option.some FieldType.int) 1 21 evI (emC M) [.ref t] M (FX12_fifteensOf t M) := by
  refine ct_of (by decide) (Nat.le_of_ble_eq_true rfl) (fun x hl hx hb hz => ?_)
  subst hl
  have hd : ∀ i, DAt (xc x).code (tbX12_fifteensOf[i]?) := fun i => by rw [hb]; exact dat_of dX12_fifteensOf i
  show C x w (Qn x w evI (emC M)) 6 0 [(0, .ref t)] [] M (FX12_fifteensOf t M)
  unfold FX12_fifteensOf
  refine r_iconst (pc' := 1) (v := 0) hx (hd 0) (by decide) rfl ?_
  refine r_istore_n (pc' := 2) (L' := [(1, .int 0), (0, .ref t)]) hx (hd 1) rfl (by decide) rfl rfl ?_
  refine r_iconst (pc' := 3) (v := 3) hx (hd 2) (by decide) rfl ?_
  refine r_istore_n (pc' := 4) (L' := [(2, .int 3), (1, .int 0), (0, .ref t)]) hx (hd 3) rfl (by decide) rfl rfl ?_
  refine r_sub [2, 1, 0] rfl ?_
  refine r_wl2 (fun v1 v2 => [(0, .ref t), (1, .int v1), (2, .int v2)]) (fun v1 v2 => []) (fun v1 v2 => M) (fun v1 v2 rec3 ih4 => ?_) fuel 0 3
  refine r_iload_n (pc' := 5) hx (hd 4) rfl 2 rfl rfl ?_
  refine r_bipush (pc' := 7) (v := 32) hx (hd 5) (by decide) rfl ?_
  refine r_icmp_ge (tgt := 106) (pc' := 10) hx (hd 6) (by decide) (fun _ => ?_) rfl (fun _ => ?_)
  · skip
    refine r_iload_n (pc' := 107) hx (hd 62) rfl 1 rfl rfl ?_
    exact r_iret hx (hd 63) rfl rfl hz
  · skip
    refine r_iconst (pc' := 11) (v := 0) hx (hd 7) (by decide) rfl ?_
    refine r_istore_n (pc' := 12) (L' := [(3, .int 0), (0, .ref t), (1, .int v1), (2, .int v2)]) hx (hd 8) rfl (by decide) rfl rfl ?_
    refine r_iconst (pc' := 13) (v := 0) hx (hd 9) (by decide) rfl ?_
    refine r_istore (pc' := 15) (L' := [(4, .int 0), (3, .int 0), (0, .ref t), (1, .int v1), (2, .int v2)]) hx (hd 10) (by decide) rfl rfl ?_
    refine r_iconst (pc' := 16) (v := 0) hx (hd 11) (by decide) rfl ?_
    refine r_istore (pc' := 18) (L' := [(5, .int 0), (4, .int 0), (3, .int 0), (0, .ref t), (1, .int v1), (2, .int v2)]) hx (hd 12) (by decide) rfl rfl ?_
    refine r_sub [3, 4, 5, 2, 1, 0] rfl ?_
    refine r_wl3 (fun v5 v6 v7 => [(0, .ref t), (1, .int v1), (2, .int v2), (3, .int v5), (4, .int v6), (5, .int v7)]) (fun v5 v6 v7 => []) (fun v5 v6 v7 => M) (fun v5 v6 v7 rec8 ih9 => ?_) fuel 0 0 0
    refine r_iload (pc' := 20) hx (hd 13) 5 rfl rfl ?_
    refine r_iconst (pc' := 21) (v := 5) hx (hd 14) (by decide) rfl ?_
    refine r_icmp_ge (tgt := 69) (pc' := 24) hx (hd 15) (by decide) (fun _ => ?_) rfl (fun _ => ?_)
    · skip
      refine r_iload_n (pc' := 70) hx (hd 42) rfl 1 rfl rfl ?_
      refine r_iload (pc' := 72) hx (hd 43) 4 rfl rfl ?_
      refine r_iconst (pc' := 73) (v := 1) hx (hd 44) (by decide) rfl ?_
      refine r_jn1 98 (fun v10 => [(0, .ref t), (2, .int v2)]) (fun v10 => [.int v10, .int v1]) (fun v10 => M) (fun v10 => ?_) (fun j11 hj12 => ?_)
      · skip
        refine r_iadd (pc' := 99) hx (hd 58) rfl ?_
        refine r_nmI (fun v13 => ?_)
        refine r_istore_n (pc' := 100) (L' := [(1, .int v13), (0, .ref t), (2, .int v2)]) hx (hd 59) rfl (by decide) rfl rfl ?_
        refine r_iinc (pc' := 103) (v := 1) hx (hd 60) 2 rfl (by decide) (by decide) (fun v14 => [(2, .int v14), (1, .int v13), (0, .ref t)]) (fun _ => rfl) rfl (fun v14 => ?_)
        refine r_goto (tgt := 4) hx (hd 61) (by decide) ?_
        refine r_sub [2, 1, 0] rfl ?_
        exact ih4 v13 v14
      refine r_jn0 97 ([(0, .ref t), (2, .int v2)]) ([.int v1]) (M) (?_) (fun j15 hj16 => ?_)
      · skip
        refine r_iconst (pc' := 98) (v := 0) hx (hd 57) (by decide) rfl ?_
        exact hj12 0
      refine r_icmp_le (tgt := 97) (pc' := 76) hx (hd 45) (by decide) (fun _ => ?_) rfl (fun _ => ?_)
      · skip
        refine r_sub [0, 2] rfl ?_
        exact hj16
      · skip
        refine r_iload_n (pc' := 77) hx (hd 46) rfl 3 rfl rfl ?_
        refine r_aload_n (pc' := 78) hx (hd 47) rfl 0 rfl rfl ?_
        refine r_get (pc' := 81) (v := .ref (t + 2)) hx (hd 48) fl_12_13 ht rfl (by decide) rfl ?_
        have h17 := hL.1 _ _ _ ht 3 2 20 5594 rfl
        refine r_bipush (pc' := 83) (v := 7) hx (hd 49) (by decide) rfl ?_
        refine r_iald (pc' := 84) (k := 7) hx (hd 50) h17 (by decide) (by decide) rfl ?_
        refine r_icmp_ne (tgt := 97) (pc' := 87) hx (hd 51) (by decide) (fun _ => ?_) rfl (fun _ => ?_)
        · skip
          refine r_sub [0, 2] rfl ?_
          exact hj16
        · skip
          refine r_aload_n (pc' := 88) hx (hd 52) rfl 0 rfl rfl ?_
          refine r_get (pc' := 91) (v := .ref (t + 22)) hx (hd 53) fl_12_119 ht rfl (by decide) rfl ?_
          have h18 := hL.1 _ _ _ ht 42 22 20 6 rfl
          refine r_iload (pc' := 93) hx (hd 54) 4 rfl rfl ?_
          refine r_gd (fun h19 => ?_)
          refine r_iald (pc' := 94) (k := ix v6) hx (hd 55) h18 h19 rfl rfl ?_
          refine r_goto (tgt := 98) hx (hd 56) (by decide) ?_
          refine r_sub [0, 2] rfl ?_
          exact hj12 (mI M (t + 22) (ix v6))
    · skip
      refine r_iload_n (pc' := 25) hx (hd 16) rfl 3 rfl rfl ?_
      refine r_iload_n (pc' := 26) hx (hd 17) rfl 2 rfl rfl ?_
      refine r_iload (pc' := 28) hx (hd 18) 5 rfl rfl ?_
      refine r_callS (pc' := 31) (As := [.int v2, .int v7]) (rest := [.int v5]) hx (hd 19) md_X12_is mst_X12_is ml_12_462 (cX12_is (xl x) w hL v2 v7 M) ⟨Nat.le_of_ble_eq_true rfl, Nat.le_of_ble_eq_true rfl⟩ rfl rfl (Nat.le_of_ble_eq_true rfl) (fun r20 => .int r20 :: [.int v5]) (fun _ => M) (fun _ => ⟨rfl, rfl⟩) rfl (fun r20 _ => ?_)
      refine r_jn1 50 (fun v21 => [(0, .ref t), (1, .int v1), (2, .int v2), (4, .int v6), (5, .int v7)]) (fun v21 => [.int v21, .int v5]) (fun v21 => M) (fun v21 => ?_) (fun j22 hj23 => ?_)
      · skip
        refine r_iadd (pc' := 51) hx (hd 30) rfl ?_
        refine r_nmI (fun v24 => ?_)
        refine r_istore_n (pc' := 52) (L' := [(3, .int v24), (0, .ref t), (1, .int v1), (2, .int v2), (4, .int v6), (5, .int v7)]) hx (hd 31) rfl (by decide) rfl rfl ?_
        refine r_iload (pc' := 54) hx (hd 32) 4 rfl rfl ?_
        refine r_iload_n (pc' := 55) hx (hd 33) rfl 3 rfl rfl ?_
        refine r_iload (pc' := 57) hx (hd 34) 5 rfl rfl ?_
        refine r_ishr (pc' := 58) hx (hd 35) rfl ?_
        refine r_iconst (pc' := 59) (v := 1) hx (hd 36) (by decide) rfl ?_
        refine r_iand (pc' := 60) hx (hd 37) rfl ?_
        refine r_iadd (pc' := 61) hx (hd 38) rfl ?_
        refine r_nmI (fun v25 => ?_)
        refine r_istore (pc' := 63) (L' := [(4, .int v25), (3, .int v24), (0, .ref t), (1, .int v1), (2, .int v2), (5, .int v7)]) hx (hd 39) (by decide) rfl rfl ?_
        refine r_iinc (pc' := 66) (v := 1) hx (hd 40) 5 rfl (by decide) (by decide) (fun v26 => [(5, .int v26), (4, .int v25), (3, .int v24), (0, .ref t), (1, .int v1), (2, .int v2)]) (fun _ => rfl) rfl (fun v26 => ?_)
        refine r_goto (tgt := 18) hx (hd 41) (by decide) ?_
        refine r_sub [3, 4, 5, 2, 1, 0] rfl ?_
        exact ih9 v24 v25 v26
      refine r_if_eq (tgt := 49) (pc' := 34) hx (hd 20) (by decide) (fun _ => ?_) rfl (fun _ => ?_)
      · skip
        refine r_iconst (pc' := 50) (v := 0) hx (hd 29) (by decide) rfl ?_
        refine r_sub [0, 1, 2, 4, 5] rfl ?_
        exact hj23 0
      · skip
        refine r_aload_n (pc' := 35) hx (hd 21) rfl 0 rfl rfl ?_
        refine r_get (pc' := 38) (v := .ref (t + 21)) hx (hd 22) fl_12_116 ht rfl (by decide) rfl ?_
        have h27 := hL.1 _ _ _ ht 41 21 20 52 rfl
        refine r_aload_n (pc' := 39) hx (hd 23) rfl 0 rfl rfl ?_
        refine r_get (pc' := 42) (v := .ref (t + 27)) hx (hd 24) fl_12_134 ht rfl (by decide) rfl ?_
        have h28 := hL.1 _ _ _ ht 47 27 20 5 rfl
        refine r_iload (pc' := 44) hx (hd 25) 5 rfl rfl ?_
        refine r_gd (fun h29 => ?_)
        refine r_iald (pc' := 45) (k := ix v7) hx (hd 26) h28 h29 rfl rfl ?_
        refine r_gd (fun h30 => ?_)
        refine r_iald (pc' := 46) (k := ix (mI M (t + 27) (ix v7))) hx (hd 27) h27 h30 rfl rfl ?_
        refine r_goto (tgt := 50) hx (hd 28) (by decide) ?_
        refine r_sub [0, 1, 2, 4, 5] rfl ?_
        exact hj23 (mI M (t + 21) (ix (mI M (t + 27) (ix v7))))
abbrev yX12_pairsOf : MethodName := ({ cls := "CribbageRoomModel", name := "pairsOf", desc := "()I" } : Jvm.MethodName)
def tbX12_pairsOf : List (Nat × Instr × Nat) := [(0, .iconst 0, 1), (1, .istore_n 1, 1), (2, .iconst 0, 1), (3, .istore_n 2, 1), (4, .iload_n 2, 1), (5, .iconst 5, 1), (6, .if_icmp .ge 64, 3), (9, .iconst 0, 1), (10, .istore_n 3, 1), (11, .iload_n 3, 1), (12, .iload_n 2, 1), (13, .if_icmp .ge 51, 3), (16, .iload_n 1, 1), (17, .aload_n 0, 1), (18, .getfield 134, 3), (21, .iload_n 2, 1), (22, .iaload, 1), (23, .invokestatic 447, 3), (26, .aload_n 0, 1), (27, .getfield 134, 3), (30, .iload_n 3, 1), (31, .iaload, 1), (32, .invokestatic 447, 3), (35, .if_icmp .ne 20, 3), (38, .aload_n 0, 1), (39, .getfield 122, 3), (42, .aload_n 0, 1), (43, .getfield 134, 3), (46, .iload_n 2, 1), (47, .iaload, 1), (48, .invokestatic 447, 3), (51, .iaload, 1), (52, .goto 4, 3), (55, .iconst 0, 1), (56, .iadd, 1), (57, .istore_n 1, 1), (58, .iinc 3 1, 3), (61, .goto (-50), 3), (64, .iinc 2 1, 3), (67, .goto (-63), 3), (70, .iload_n 1, 1), (71, .ireturn, 1)]
theorem dX12_pairsOf : ∀ q ∈ tbX12_pairsOf, decode prog_14_method_70_code q.1 = .ok q.2 := by decide +kernel
set_option maxRecDepth 20000 in
theorem cX12_pairsOf (l : Launch) (w : WX) (hL : Lay w) (t : Nat) (ht : Wat w t 12 0) (M : Mem) : Ct l w yX12_pairsOf prog_14_method_70_code 4 (Option.some FieldType.int) 1 20 evI (emC M) [.ref t] M (FX12_pairsOf t M) := by
  refine ct_of (by decide) (Nat.le_of_ble_eq_true rfl) (fun x hl hx hb hz => ?_)
  subst hl
  have hd : ∀ i, DAt (xc x).code (tbX12_pairsOf[i]?) := fun i => by rw [hb]; exact dat_of dX12_pairsOf i
  show C x w (Qn x w evI (emC M)) 4 0 [(0, .ref t)] [] M (FX12_pairsOf t M)
  unfold FX12_pairsOf
  refine r_iconst (pc' := 1) (v := 0) hx (hd 0) (by decide) rfl ?_
  refine r_istore_n (pc' := 2) (L' := [(1, .int 0), (0, .ref t)]) hx (hd 1) rfl (by decide) rfl rfl ?_
  refine r_iconst (pc' := 3) (v := 0) hx (hd 2) (by decide) rfl ?_
  refine r_istore_n (pc' := 4) (L' := [(2, .int 0), (1, .int 0), (0, .ref t)]) hx (hd 3) rfl (by decide) rfl rfl ?_
  refine r_sub [2, 1, 0] rfl ?_
  refine r_wl2 (fun v1 v2 => [(0, .ref t), (1, .int v1), (2, .int v2)]) (fun v1 v2 => []) (fun v1 v2 => M) (fun v1 v2 rec3 ih4 => ?_) fuel 0 0
  refine r_iload_n (pc' := 5) hx (hd 4) rfl 2 rfl rfl ?_
  refine r_iconst (pc' := 6) (v := 5) hx (hd 5) (by decide) rfl ?_
  refine r_icmp_ge (tgt := 70) (pc' := 9) hx (hd 6) (by decide) (fun _ => ?_) rfl (fun _ => ?_)
  · skip
    refine r_iload_n (pc' := 71) hx (hd 40) rfl 1 rfl rfl ?_
    exact r_iret hx (hd 41) rfl rfl hz
  · skip
    refine r_iconst (pc' := 10) (v := 0) hx (hd 7) (by decide) rfl ?_
    refine r_istore_n (pc' := 11) (L' := [(3, .int 0), (0, .ref t), (1, .int v1), (2, .int v2)]) hx (hd 8) rfl (by decide) rfl rfl ?_
    refine r_sub [1, 2, 3, 0] rfl ?_
    refine r_wl2 (fun v5 v6 => [(0, .ref t), (1, .int v5), (2, .int v2), (3, .int v6)]) (fun v5 v6 => []) (fun v5 v6 => M) (fun v5 v6 rec7 ih8 => ?_) fuel v1 0
    refine r_iload_n (pc' := 12) hx (hd 9) rfl 3 rfl rfl ?_
    refine r_iload_n (pc' := 13) hx (hd 10) rfl 2 rfl rfl ?_
    refine r_icmp_ge (tgt := 64) (pc' := 16) hx (hd 11) (by decide) (fun _ => ?_) rfl (fun _ => ?_)
    · skip
      refine r_iinc (pc' := 67) (v := 1) hx (hd 38) 2 rfl (by decide) (by decide) (fun v9 => [(2, .int v9), (0, .ref t), (1, .int v5), (3, .int v6)]) (fun _ => rfl) rfl (fun v9 => ?_)
      refine r_goto (tgt := 4) hx (hd 39) (by decide) ?_
      refine r_sub [1, 2, 0] rfl ?_
      exact ih4 v5 v9
    · skip
      refine r_iload_n (pc' := 17) hx (hd 12) rfl 1 rfl rfl ?_
      refine r_aload_n (pc' := 18) hx (hd 13) rfl 0 rfl rfl ?_
      refine r_get (pc' := 21) (v := .ref (t + 27)) hx (hd 14) fl_12_134 ht rfl (by decide) rfl ?_
      have h10 := hL.1 _ _ _ ht 47 27 20 5 rfl
      refine r_iload_n (pc' := 22) hx (hd 15) rfl 2 rfl rfl ?_
      refine r_gd (fun h11 => ?_)
      refine r_iald (pc' := 23) (k := ix v2) hx (hd 16) h10 h11 rfl rfl ?_
      refine r_callS (pc' := 26) (As := [.int (mI M (t + 27) (ix v2))]) (rest := [.int v5]) hx (hd 17) md_X12_rankOf mst_X12_rankOf ml_12_447 (cX12_rankOf (xl x) w hL (mI M (t + 27) (ix v2)) M) ⟨Nat.le_of_ble_eq_true rfl, Nat.le_of_ble_eq_true rfl⟩ rfl rfl (Nat.le_of_ble_eq_true rfl) (fun r12 => .int r12 :: [.int v5]) (fun _ => M) (fun _ => ⟨rfl, rfl⟩) rfl (fun r12 _ => ?_)
      refine r_aload_n (pc' := 27) hx (hd 18) rfl 0 rfl rfl ?_
      refine r_get (pc' := 30) (v := .ref (t + 27)) hx (hd 19) fl_12_134 ht rfl (by decide) rfl ?_
      have h13 := hL.1 _ _ _ ht 47 27 20 5 rfl
      refine r_iload_n (pc' := 31) hx (hd 20) rfl 3 rfl rfl ?_
      refine r_gd (fun h14 => ?_)
      refine r_iald (pc' := 32) (k := ix v6) hx (hd 21) h13 h14 rfl rfl ?_
      refine r_callS (pc' := 35) (As := [.int (mI M (t + 27) (ix v6))]) (rest := [.int r12, .int v5]) hx (hd 22) md_X12_rankOf mst_X12_rankOf ml_12_447 (cX12_rankOf (xl x) w hL (mI M (t + 27) (ix v6)) M) ⟨Nat.le_of_ble_eq_true rfl, Nat.le_of_ble_eq_true rfl⟩ rfl rfl (Nat.le_of_ble_eq_true rfl) (fun r15 => .int r15 :: [.int r12, .int v5]) (fun _ => M) (fun _ => ⟨rfl, rfl⟩) rfl (fun r15 _ => ?_)
      refine r_jn1 56 (fun v16 => [(0, .ref t), (2, .int v2), (3, .int v6)]) (fun v16 => [.int v16, .int v5]) (fun v16 => M) (fun v16 => ?_) (fun j17 hj18 => ?_)
      · skip
        refine r_iadd (pc' := 57) hx (hd 34) rfl ?_
        refine r_nmI (fun v19 => ?_)
        refine r_istore_n (pc' := 58) (L' := [(1, .int v19), (0, .ref t), (2, .int v2), (3, .int v6)]) hx (hd 35) rfl (by decide) rfl rfl ?_
        refine r_iinc (pc' := 61) (v := 1) hx (hd 36) 3 rfl (by decide) (by decide) (fun v20 => [(3, .int v20), (1, .int v19), (0, .ref t), (2, .int v2)]) (fun _ => rfl) rfl (fun v20 => ?_)
        refine r_goto (tgt := 11) hx (hd 37) (by decide) ?_
        refine r_sub [2, 1, 3, 0] rfl ?_
        exact ih8 v19 v20
      refine r_icmp_ne (tgt := 55) (pc' := 38) hx (hd 23) (by decide) (fun _ => ?_) rfl (fun _ => ?_)
      · skip
        refine r_iconst (pc' := 56) (v := 0) hx (hd 33) (by decide) rfl ?_
        refine r_sub [0, 2, 3] rfl ?_
        exact hj18 0
      · skip
        refine r_aload_n (pc' := 39) hx (hd 24) rfl 0 rfl rfl ?_
        refine r_get (pc' := 42) (v := .ref (t + 23)) hx (hd 25) fl_12_122 ht rfl (by decide) rfl ?_
        have h21 := hL.1 _ _ _ ht 43 23 20 13 rfl
        refine r_aload_n (pc' := 43) hx (hd 26) rfl 0 rfl rfl ?_
        refine r_get (pc' := 46) (v := .ref (t + 27)) hx (hd 27) fl_12_134 ht rfl (by decide) rfl ?_
        have h22 := hL.1 _ _ _ ht 47 27 20 5 rfl
        refine r_iload_n (pc' := 47) hx (hd 28) rfl 2 rfl rfl ?_
        refine r_gd (fun h23 => ?_)
        refine r_iald (pc' := 48) (k := ix v2) hx (hd 29) h22 h23 rfl rfl ?_
        refine r_callS (pc' := 51) (As := [.int (mI M (t + 27) (ix v2))]) (rest := [.ref (t + 23), .int v5]) hx (hd 30) md_X12_rankOf mst_X12_rankOf ml_12_447 (cX12_rankOf (xl x) w hL (mI M (t + 27) (ix v2)) M) ⟨Nat.le_of_ble_eq_true rfl, Nat.le_of_ble_eq_true rfl⟩ rfl rfl (Nat.le_of_ble_eq_true rfl) (fun r24 => .int r24 :: [.ref (t + 23), .int v5]) (fun _ => M) (fun _ => ⟨rfl, rfl⟩) rfl (fun r24 _ => ?_)
        refine r_gd (fun h25 => ?_)
        refine r_iald (pc' := 52) (k := ix r24) hx (hd 31) h21 h25 rfl rfl ?_
        refine r_goto (tgt := 56) hx (hd 32) (by decide) ?_
        refine r_sub [0, 2, 3] rfl ?_
        exact hj18 (mI M (t + 23) (ix r24))
abbrev yX12_runsOf : MethodName := ({ cls := "CribbageRoomModel", name := "runsOf", desc := "()I" } : Jvm.MethodName)
def tbX12_runsOf : List (Nat × Instr × Nat) := [(0, .iconst 0, 1), (1, .istore_n 1, 1), (2, .iload_n 1, 1), (3, .bipush 14, 2), (5, .if_icmp .ge 16, 3), (8, .aload_n 0, 1), (9, .getfield 140, 3), (12, .iload_n 1, 1), (13, .iconst 0, 1), (14, .iastore, 1), (15, .iinc 1 1, 3), (18, .goto (-16), 3), (21, .iconst 0, 1), (22, .istore_n 1, 1), (23, .iload_n 1, 1), (24, .iconst 5, 1), (25, .if_icmp .ge 27, 3), (28, .aload_n 0, 1), (29, .getfield 140, 3), (32, .aload_n 0, 1), (33, .getfield 134, 3), (36, .iload_n 1, 1), (37, .iaload, 1), (38, .invokestatic 447, 3), (41, .dup2, 1), (42, .iaload, 1), (43, .iconst 1, 1), (44, .iadd, 1), (45, .iastore, 1), (46, .iinc 1 1, 3), (49, .goto (-26), 3), (52, .iconst 0, 1), (53, .istore_n 1, 1), (54, .iconst 0, 1), (55, .istore_n 2, 1), (56, .iconst 1, 1), (57, .istore_n 3, 1), (58, .iconst 0, 1), (59, .istore 4, 2), (61, .iload 4, 2), (63, .bipush 14, 2), (65, .if_icmp .ge 59, 3), (68, .aload_n 0, 1), (69, .getfield 140, 3), (72, .iload 4, 2), (74, .iaload, 1), (75, .ifCond .le 19, 3), (78, .iinc 2 1, 3), (81, .iload_n 3, 1), (82, .aload_n 0, 1), (83, .getfield 140, 3), (86, .iload 4, 2), (88, .iaload, 1), (89, .imul, 1), (90, .istore_n 3, 1), (91, .goto 27, 3), (94, .iload_n 1, 1), (95, .iload_n 2, 1), (96, .iconst 2, 1), (97, .if_icmp .le 14, 3), (100, .iload_n 3, 1), (101, .aload_n 0, 1), (102, .getfield 125, 3), (105, .iload_n 2, 1), (106, .iaload, 1), (107, .imul, 1), (108, .goto 4, 3), (111, .iconst 0, 1), (112, .iadd, 1), (113, .istore_n 1, 1), (114, .iconst 0, 1), (115, .istore_n 2, 1), (116, .iconst 1, 1), (117, .istore_n 3, 1), (118, .iinc 4 1, 3), (121, .goto (-60), 3), (124, .iload_n 1, 1), (125, .ireturn, 1)]
theorem dX12_runsOf : ∀ q ∈ tbX12_runsOf, decode prog_14_method_71_code q.1 = .ok q.2 := by decide +kernel
set_option maxRecDepth 20000 in
theorem cX12_runsOf (l : Launch) (w : WX) (hL : Lay w) (t : Nat) (ht : Wat w t 12 0) (M : Mem) : Ct l w yX12_runsOf prog_14_method_71_code 5 (Option.some FieldType.int) 1 20 evIM emM [.ref t] M (FX12_runsOf t M) := by
  refine ct_of (by decide) (Nat.le_of_ble_eq_true rfl) (fun x hl hx hb hz => ?_)
  subst hl
  have hd : ∀ i, DAt (xc x).code (tbX12_runsOf[i]?) := fun i => by rw [hb]; exact dat_of dX12_runsOf i
  show C x w (Qn x w evIM emM) 5 0 [(0, .ref t)] [] M (FX12_runsOf t M)
  unfold FX12_runsOf
  refine r_iconst (pc' := 1) (v := 0) hx (hd 0) (by decide) rfl ?_
  refine r_istore_n (pc' := 2) (L' := [(1, .int 0), (0, .ref t)]) hx (hd 1) rfl (by decide) rfl rfl ?_
  refine r_sub [1, 0] rfl ?_
  refine r_wl2 (fun v1 M2 => [(0, .ref t), (1, .int v1)]) (fun v1 M2 => []) (fun v1 M2 => M2) (fun v1 M2 rec3 ih4 => ?_) fuel 0 M
  refine r_iload_n (pc' := 3) hx (hd 2) rfl 1 rfl rfl ?_
  refine r_bipush (pc' := 5) (v := 14) hx (hd 3) (by decide) rfl ?_
  refine r_icmp_ge (tgt := 21) (pc' := 8) hx (hd 4) (by decide) (fun _ => ?_) rfl (fun _ => ?_)
  · skip
    refine r_iconst (pc' := 22) (v := 0) hx (hd 12) (by decide) rfl ?_
    refine r_istore_n (pc' := 23) (L' := [(1, .int 0), (0, .ref t)]) hx (hd 13) rfl (by decide) rfl rfl ?_
    refine r_sub [1, 0] rfl ?_
    refine r_wl2 (fun v5 M6 => [(0, .ref t), (1, .int v5)]) (fun v5 M6 => []) (fun v5 M6 => M6) (fun v5 M6 rec7 ih8 => ?_) fuel 0 M2
    refine r_iload_n (pc' := 24) hx (hd 14) rfl 1 rfl rfl ?_
    refine r_iconst (pc' := 25) (v := 5) hx (hd 15) (by decide) rfl ?_
    refine r_icmp_ge (tgt := 52) (pc' := 28) hx (hd 16) (by decide) (fun _ => ?_) rfl (fun _ => ?_)
    · skip
      refine r_iconst (pc' := 53) (v := 0) hx (hd 31) (by decide) rfl ?_
      refine r_istore_n (pc' := 54) (L' := [(1, .int 0), (0, .ref t)]) hx (hd 32) rfl (by decide) rfl rfl ?_
      refine r_iconst (pc' := 55) (v := 0) hx (hd 33) (by decide) rfl ?_
      refine r_istore_n (pc' := 56) (L' := [(2, .int 0), (1, .int 0), (0, .ref t)]) hx (hd 34) rfl (by decide) rfl rfl ?_
      refine r_iconst (pc' := 57) (v := 1) hx (hd 35) (by decide) rfl ?_
      refine r_istore_n (pc' := 58) (L' := [(3, .int 1), (2, .int 0), (1, .int 0), (0, .ref t)]) hx (hd 36) rfl (by decide) rfl rfl ?_
      refine r_iconst (pc' := 59) (v := 0) hx (hd 37) (by decide) rfl ?_
      refine r_istore (pc' := 61) (L' := [(4, .int 0), (3, .int 1), (2, .int 0), (1, .int 0), (0, .ref t)]) hx (hd 38) (by decide) rfl rfl ?_
      refine r_sub [4, 3, 2, 1, 0] rfl ?_
      refine r_wl4 (fun v9 v10 v11 v12 => [(0, .ref t), (1, .int v9), (2, .int v10), (3, .int v11), (4, .int v12)]) (fun v9 v10 v11 v12 => []) (fun v9 v10 v11 v12 => M6) (fun v9 v10 v11 v12 rec13 ih14 => ?_) fuel 0 0 1 0
      refine r_iload (pc' := 63) hx (hd 39) 4 rfl rfl ?_
      refine r_bipush (pc' := 65) (v := 14) hx (hd 40) (by decide) rfl ?_
      refine r_icmp_ge (tgt := 124) (pc' := 68) hx (hd 41) (by decide) (fun _ => ?_) rfl (fun _ => ?_)
      · skip
        refine r_iload_n (pc' := 125) hx (hd 76) rfl 1 rfl rfl ?_
        exact r_iret hx (hd 77) rfl rfl hz
      · skip
        refine r_aload_n (pc' := 69) hx (hd 42) rfl 0 rfl rfl ?_
        refine r_get (pc' := 72) (v := .ref (t + 29)) hx (hd 43) fl_12_140 ht rfl (by decide) rfl ?_
        have h15 := hL.1 _ _ _ ht 49 29 20 14 rfl
        refine r_iload (pc' := 74) hx (hd 44) 4 rfl rfl ?_
        refine r_gd (fun h16 => ?_)
        refine r_iald (pc' := 75) (k := ix v12) hx (hd 45) h15 h16 rfl rfl ?_
        refine r_jn3 118 (fun v17 v18 v19 => [(0, .ref t), (1, .int v17), (2, .int v18), (3, .int v19), (4, .int v12)]) (fun v17 v18 v19 => []) (fun v17 v18 v19 => M6) (fun v17 v18 v19 => ?_) (fun j20 hj21 => ?_)
        · skip
          refine r_iinc (pc' := 121) (v := 1) hx (hd 74) 4 rfl (by decide) (by decide) (fun v22 => [(4, .int v22), (0, .ref t), (1, .int v17), (2, .int v18), (3, .int v19)]) (fun _ => rfl) rfl (fun v22 => ?_)
          refine r_goto (tgt := 61) hx (hd 75) (by decide) ?_
          refine r_sub [1, 2, 3, 4, 0] rfl ?_
          exact ih14 v17 v18 v19 v22
        refine r_if_le (tgt := 94) (pc' := 78) hx (hd 46) (by decide) (fun _ => ?_) rfl (fun _ => ?_)
        · skip
          refine r_iload_n (pc' := 95) hx (hd 56) rfl 1 rfl rfl ?_
          refine r_iload_n (pc' := 96) hx (hd 57) rfl 2 rfl rfl ?_
          refine r_iconst (pc' := 97) (v := 2) hx (hd 58) (by decide) rfl ?_
          refine r_jn1 112 (fun v23 => [(0, .ref t), (4, .int v12)]) (fun v23 => [.int v23, .int v9]) (fun v23 => M6) (fun v23 => ?_) (fun j24 hj25 => ?_)
          · skip
            refine r_iadd (pc' := 113) hx (hd 68) rfl ?_
            refine r_nmI (fun v26 => ?_)
            refine r_istore_n (pc' := 114) (L' := [(1, .int v26), (0, .ref t), (4, .int v12)]) hx (hd 69) rfl (by decide) rfl rfl ?_
            refine r_iconst (pc' := 115) (v := 0) hx (hd 70) (by decide) rfl ?_
            refine r_istore_n (pc' := 116) (L' := [(2, .int 0), (1, .int v26), (0, .ref t), (4, .int v12)]) hx (hd 71) rfl (by decide) rfl rfl ?_
            refine r_iconst (pc' := 117) (v := 1) hx (hd 72) (by decide) rfl ?_
            refine r_istore_n (pc' := 118) (L' := [(3, .int 1), (2, .int 0), (1, .int v26), (0, .ref t), (4, .int v12)]) hx (hd 73) rfl (by decide) rfl rfl ?_
            refine r_sub [3, 2, 1, 0, 4] rfl ?_
            exact hj21 v26 0 1
          refine r_icmp_le (tgt := 111) (pc' := 100) hx (hd 59) (by decide) (fun _ => ?_) rfl (fun _ => ?_)
          · skip
            refine r_iconst (pc' := 112) (v := 0) hx (hd 67) (by decide) rfl ?_
            refine r_sub [0, 4] rfl ?_
            exact hj25 0
          · skip
            refine r_iload_n (pc' := 101) hx (hd 60) rfl 3 rfl rfl ?_
            refine r_aload_n (pc' := 102) hx (hd 61) rfl 0 rfl rfl ?_
            refine r_get (pc' := 105) (v := .ref (t + 24)) hx (hd 62) fl_12_125 ht rfl (by decide) rfl ?_
            have h27 := hL.1 _ _ _ ht 44 24 20 6 rfl
            refine r_iload_n (pc' := 106) hx (hd 63) rfl 2 rfl rfl ?_
            refine r_gd (fun h28 => ?_)
            refine r_iald (pc' := 107) (k := ix v10) hx (hd 64) h27 h28 rfl rfl ?_
            refine r_imul (pc' := 108) hx (hd 65) rfl ?_
            refine r_goto (tgt := 112) hx (hd 66) (by decide) ?_
            refine r_sub [0, 4] rfl ?_
            exact hj25 (v11 * (mI M6 (t + 24) (ix v10)))
        · skip
          refine r_iinc (pc' := 81) (v := 1) hx (hd 47) 2 rfl (by decide) (by decide) (fun v29 => [(2, .int v29), (0, .ref t), (1, .int v9), (3, .int v11), (4, .int v12)]) (fun _ => rfl) rfl (fun v29 => ?_)
          refine r_iload_n (pc' := 82) hx (hd 48) rfl 3 rfl rfl ?_
          refine r_aload_n (pc' := 83) hx (hd 49) rfl 1 rfl rfl ?_
          refine r_get (pc' := 86) (v := .ref (t + 29)) hx (hd 50) fl_12_140 ht rfl (by decide) rfl ?_
          have h30 := hL.1 _ _ _ ht 49 29 20 14 rfl
          refine r_iload (pc' := 88) hx (hd 51) 4 rfl rfl ?_
          refine r_gd (fun h31 => ?_)
          refine r_iald (pc' := 89) (k := ix v12) hx (hd 52) h30 h31 rfl rfl ?_
          refine r_imul (pc' := 90) hx (hd 53) rfl ?_
          refine r_nmI (fun v32 => ?_)
          refine r_istore_n (pc' := 91) (L' := [(3, .int v32), (2, .int v29), (0, .ref t), (1, .int v9), (4, .int v12)]) hx (hd 54) rfl (by decide) rfl rfl ?_
          refine r_goto (tgt := 118) hx (hd 55) (by decide) ?_
          refine r_sub [2, 3, 1, 0, 4] rfl ?_
          exact hj21 v9 v29 v32
    · skip
      refine r_aload_n (pc' := 29) hx (hd 17) rfl 0 rfl rfl ?_
      refine r_get (pc' := 32) (v := .ref (t + 29)) hx (hd 18) fl_12_140 ht rfl (by decide) rfl ?_
      have h33 := hL.1 _ _ _ ht 49 29 20 14 rfl
      refine r_aload_n (pc' := 33) hx (hd 19) rfl 0 rfl rfl ?_
      refine r_get (pc' := 36) (v := .ref (t + 27)) hx (hd 20) fl_12_134 ht rfl (by decide) rfl ?_
      have h34 := hL.1 _ _ _ ht 47 27 20 5 rfl
      refine r_iload_n (pc' := 37) hx (hd 21) rfl 1 rfl rfl ?_
      refine r_gd (fun h35 => ?_)
      refine r_iald (pc' := 38) (k := ix v5) hx (hd 22) h34 h35 rfl rfl ?_
      refine r_callS (pc' := 41) (As := [.int (mI M6 (t + 27) (ix v5))]) (rest := [.ref (t + 29)]) hx (hd 23) md_X12_rankOf mst_X12_rankOf ml_12_447 (cX12_rankOf (xl x) w hL (mI M6 (t + 27) (ix v5)) M6) ⟨Nat.le_of_ble_eq_true rfl, Nat.le_of_ble_eq_true rfl⟩ rfl rfl (Nat.le_of_ble_eq_true rfl) (fun r36 => .int r36 :: [.ref (t + 29)]) (fun _ => M6) (fun _ => ⟨rfl, rfl⟩) rfl (fun r36 _ => ?_)
      refine r_dup2 (pc' := 42) hx (hd 24) rfl rfl rfl ?_
      refine r_gd (fun h37 => ?_)
      refine r_iald (pc' := 43) (k := ix r36) hx (hd 25) h33 h37 rfl rfl ?_
      refine r_iconst (pc' := 44) (v := 1) hx (hd 26) (by decide) rfl ?_
      refine r_iadd (pc' := 45) hx (hd 27) rfl ?_
      refine r_gd (fun h39 => ?_)
      refine r_iast (pc' := 46) (k := ix r36) hx (hd 28) h33 h39 rfl rfl (fun M38 => ?_)
      refine r_iinc (pc' := 49) (v := 1) hx (hd 29) 1 rfl (by decide) (by decide) (fun v40 => [(1, .int v40), (0, .ref t)]) (fun _ => rfl) rfl (fun v40 => ?_)
      refine r_goto (tgt := 23) hx (hd 30) (by decide) ?_
      refine r_sub [1, 0] rfl ?_
      exact ih8 v40 M38
  · skip
    refine r_aload_n (pc' := 9) hx (hd 5) rfl 0 rfl rfl ?_
    refine r_get (pc' := 12) (v := .ref (t + 29)) hx (hd 6) fl_12_140 ht rfl (by decide) rfl ?_
    have h41 := hL.1 _ _ _ ht 49 29 20 14 rfl
    refine r_iload_n (pc' := 13) hx (hd 7) rfl 1 rfl rfl ?_
    refine r_iconst (pc' := 14) (v := 0) hx (hd 8) (by decide) rfl ?_
    refine r_gd (fun h43 => ?_)
    refine r_iast (pc' := 15) (k := ix v1) hx (hd 9) h41 h43 rfl rfl (fun M42 => ?_)
    refine r_iinc (pc' := 18) (v := 1) hx (hd 10) 1 rfl (by decide) (by decide) (fun v44 => [(1, .int v44), (0, .ref t)]) (fun _ => rfl) rfl (fun v44 => ?_)
    refine r_goto (tgt := 2) hx (hd 11) (by decide) ?_
    refine r_sub [1, 0] rfl ?_
    exact ih4 v44 M42
abbrev yX12_flushOf : MethodName := ({ cls := "CribbageRoomModel", name := "flushOf", desc := "(I)I" } : Jvm.MethodName)
def tbX12_flushOf : List (Nat × Instr × Nat) := [(0, .aload_n 0, 1), (1, .getfield 134, 3), (4, .iconst 0, 1), (5, .iaload, 1), (6, .iconst 4, 1), (7, .irem, 1), (8, .istore_n 2, 1), (9, .iconst 1, 1), (10, .istore_n 3, 1), (11, .iload_n 3, 1), (12, .iconst 4, 1), (13, .if_icmp .ge 23, 3), (16, .aload_n 0, 1), (17, .getfield 134, 3), (20, .iload_n 3, 1), (21, .iaload, 1), (22, .iconst 4, 1), (23, .irem, 1), (24, .iload_n 2, 1), (25, .if_icmp .eq 5, 3), (28, .iconst 0, 1), (29, .ireturn, 1), (30, .iinc 3 1, 3), (33, .goto (-22), 3), (36, .aload_n 0, 1), (37, .getfield 134, 3), (40, .iconst 4, 1), (41, .iaload, 1), (42, .iconst 4, 1), (43, .irem, 1), (44, .iload_n 2, 1), (45, .if_icmp .ne 14, 3), (48, .aload_n 0, 1), (49, .getfield 128, 3), (52, .iconst 4, 1), (53, .iload_n 2, 1), (54, .iadd, 1), (55, .iaload, 1), (56, .goto 18, 3), (59, .iload_n 1, 1), (60, .iconst 1, 1), (61, .if_icmp .ne 7, 3), (64, .iconst 0, 1), (65, .goto 9, 3), (68, .aload_n 0, 1), (69, .getfield 128, 3), (72, .iload_n 2, 1), (73, .iaload, 1), (74, .ireturn, 1)]
theorem dX12_flushOf : ∀ q ∈ tbX12_flushOf, decode prog_14_method_72_code q.1 = .ok q.2 := by decide +kernel
set_option maxRecDepth 20000 in
theorem cX12_flushOf (l : Launch) (w : WX) (hL : Lay w) (t : Nat) (ht : Wat w t 12 0) (p1 : Int32) (M : Mem) : Ct l w yX12_flushOf prog_14_method_72_code 4 (Option.some FieldType.int) 0 0 evI (emC M) [.ref t, .int p1] M (FX12_flushOf t p1 M) := by
  refine ct_of (by decide) (Nat.le_of_ble_eq_true rfl) (fun x hl hx hb hz => ?_)
  subst hl
  have hd : ∀ i, DAt (xc x).code (tbX12_flushOf[i]?) := fun i => by rw [hb]; exact dat_of dX12_flushOf i
  show C x w (Qn x w evI (emC M)) 4 0 [(0, .ref t), (1, .int p1)] [] M (FX12_flushOf t p1 M)
  unfold FX12_flushOf
  refine r_aload_n (pc' := 1) hx (hd 0) rfl 0 rfl rfl ?_
  refine r_get (pc' := 4) (v := .ref (t + 27)) hx (hd 1) fl_12_134 ht rfl (by decide) rfl ?_
  have h1 := hL.1 _ _ _ ht 47 27 20 5 rfl
  refine r_iconst (pc' := 5) (v := 0) hx (hd 2) (by decide) rfl ?_
  refine r_iald (pc' := 6) (k := 0) hx (hd 3) h1 (by decide) (by decide) rfl ?_
  refine r_iconst (pc' := 7) (v := 4) hx (hd 4) (by decide) rfl ?_
  refine r_irem (pc' := 8) hx (hd 5) (by decide) rfl ?_
  refine r_nmI (fun v2 => ?_)
  refine r_istore_n (pc' := 9) (L' := [(2, .int v2), (0, .ref t), (1, .int p1)]) hx (hd 6) rfl (by decide) rfl rfl ?_
  refine r_iconst (pc' := 10) (v := 1) hx (hd 7) (by decide) rfl ?_
  refine r_istore_n (pc' := 11) (L' := [(3, .int 1), (2, .int v2), (0, .ref t), (1, .int p1)]) hx (hd 8) rfl (by decide) rfl rfl ?_
  refine r_sub [2, 3, 1, 0] rfl ?_
  refine r_wl1 (fun v3 => [(0, .ref t), (1, .int p1), (2, .int v2), (3, .int v3)]) (fun v3 => []) (fun v3 => M) (fun v3 rec4 ih5 => ?_) fuel 1
  refine r_iload_n (pc' := 12) hx (hd 9) rfl 3 rfl rfl ?_
  refine r_iconst (pc' := 13) (v := 4) hx (hd 10) (by decide) rfl ?_
  refine r_icmp_ge (tgt := 36) (pc' := 16) hx (hd 11) (by decide) (fun _ => ?_) rfl (fun _ => ?_)
  · skip
    refine r_aload_n (pc' := 37) hx (hd 24) rfl 0 rfl rfl ?_
    refine r_get (pc' := 40) (v := .ref (t + 27)) hx (hd 25) fl_12_134 ht rfl (by decide) rfl ?_
    have h6 := hL.1 _ _ _ ht 47 27 20 5 rfl
    refine r_iconst (pc' := 41) (v := 4) hx (hd 26) (by decide) rfl ?_
    refine r_iald (pc' := 42) (k := 4) hx (hd 27) h6 (by decide) (by decide) rfl ?_
    refine r_iconst (pc' := 43) (v := 4) hx (hd 28) (by decide) rfl ?_
    refine r_irem (pc' := 44) hx (hd 29) (by decide) rfl ?_
    refine r_iload_n (pc' := 45) hx (hd 30) rfl 2 rfl rfl ?_
    refine r_jn1 74 (fun v7 => []) (fun v7 => [.int v7]) (fun v7 => M) (fun v7 => ?_) (fun j8 hj9 => ?_)
    · skip
      exact r_iret hx (hd 48) rfl rfl hz
    refine r_icmp_ne (tgt := 59) (pc' := 48) hx (hd 31) (by decide) (fun _ => ?_) rfl (fun _ => ?_)
    · skip
      refine r_iload_n (pc' := 60) hx (hd 39) rfl 1 rfl rfl ?_
      refine r_iconst (pc' := 61) (v := 1) hx (hd 40) (by decide) rfl ?_
      refine r_icmp_ne (tgt := 68) (pc' := 64) hx (hd 41) (by decide) (fun _ => ?_) rfl (fun _ => ?_)
      · skip
        refine r_aload_n (pc' := 69) hx (hd 44) rfl 0 rfl rfl ?_
        refine r_get (pc' := 72) (v := .ref (t + 25)) hx (hd 45) fl_12_128 ht rfl (by decide) rfl ?_
        have h10 := hL.1 _ _ _ ht 45 25 20 8 rfl
        refine r_iload_n (pc' := 73) hx (hd 46) rfl 2 rfl rfl ?_
        refine r_gd (fun h11 => ?_)
        refine r_iald (pc' := 74) (k := ix v2) hx (hd 47) h10 h11 rfl rfl ?_
        refine r_sub [] rfl ?_
        exact hj9 (mI M (t + 25) (ix v2))
      · skip
        refine r_iconst (pc' := 65) (v := 0) hx (hd 42) (by decide) rfl ?_
        refine r_goto (tgt := 74) hx (hd 43) (by decide) ?_
        refine r_sub [] rfl ?_
        exact hj9 0
    · skip
      refine r_aload_n (pc' := 49) hx (hd 32) rfl 0 rfl rfl ?_
      refine r_get (pc' := 52) (v := .ref (t + 25)) hx (hd 33) fl_12_128 ht rfl (by decide) rfl ?_
      have h12 := hL.1 _ _ _ ht 45 25 20 8 rfl
      refine r_iconst (pc' := 53) (v := 4) hx (hd 34) (by decide) rfl ?_
      refine r_iload_n (pc' := 54) hx (hd 35) rfl 2 rfl rfl ?_
      refine r_iadd (pc' := 55) hx (hd 36) rfl ?_
      refine r_gd (fun h13 => ?_)
      refine r_iald (pc' := 56) (k := ix (4 + v2)) hx (hd 37) h12 h13 rfl rfl ?_
      refine r_goto (tgt := 74) hx (hd 38) (by decide) ?_
      refine r_sub [] rfl ?_
      exact hj9 (mI M (t + 25) (ix (4 + v2)))
  · skip
    refine r_aload_n (pc' := 17) hx (hd 12) rfl 0 rfl rfl ?_
    refine r_get (pc' := 20) (v := .ref (t + 27)) hx (hd 13) fl_12_134 ht rfl (by decide) rfl ?_
    have h14 := hL.1 _ _ _ ht 47 27 20 5 rfl
    refine r_iload_n (pc' := 21) hx (hd 14) rfl 3 rfl rfl ?_
    refine r_gd (fun h15 => ?_)
    refine r_iald (pc' := 22) (k := ix v3) hx (hd 15) h14 h15 rfl rfl ?_
    refine r_iconst (pc' := 23) (v := 4) hx (hd 16) (by decide) rfl ?_
    refine r_irem (pc' := 24) hx (hd 17) (by decide) rfl ?_
    refine r_iload_n (pc' := 25) hx (hd 18) rfl 2 rfl rfl ?_
    refine r_icmp_eq (tgt := 30) (pc' := 28) hx (hd 19) (by decide) (fun _ => ?_) rfl (fun _ => ?_)
    · skip
      refine r_iinc (pc' := 33) (v := 1) hx (hd 22) 3 rfl (by decide) (by decide) (fun v16 => [(3, .int v16), (0, .ref t), (1, .int p1), (2, .int v2)]) (fun _ => rfl) rfl (fun v16 => ?_)
      refine r_goto (tgt := 11) hx (hd 23) (by decide) ?_
      refine r_sub [1, 2, 3, 0] rfl ?_
      exact ih5 v16
    · skip
      refine r_iconst (pc' := 29) (v := 0) hx (hd 20) (by decide) rfl ?_
      exact r_iret hx (hd 21) rfl rfl hz
abbrev yX12_nobsOf : MethodName := ({ cls := "CribbageRoomModel", name := "nobsOf", desc := "()I" } : Jvm.MethodName)
def tbX12_nobsOf : List (Nat × Instr × Nat) := [(0, .iconst 0, 1), (1, .istore_n 1, 1), (2, .iconst 0, 1), (3, .istore_n 2, 1), (4, .iload_n 2, 1), (5, .iconst 4, 1), (6, .if_icmp .ge 62, 3), (9, .iload_n 1, 1), (10, .aload_n 0, 1), (11, .getfield 134, 3), (14, .iload_n 2, 1), (15, .iaload, 1), (16, .invokestatic 447, 3), (19, .bipush 10, 2), (21, .if_icmp .ne 38, 3), (24, .aload_n 0, 1), (25, .getfield 134, 3), (28, .iload_n 2, 1), (29, .iaload, 1), (30, .iconst 4, 1), (31, .irem, 1), (32, .aload_n 0, 1), (33, .getfield 134, 3), (36, .iconst 4, 1), (37, .iaload, 1), (38, .iconst 4, 1), (39, .irem, 1), (40, .if_icmp .ne 19, 3), (43, .aload_n 0, 1), (44, .getfield 131, 3), (47, .aload_n 0, 1), (48, .getfield 134, 3), (51, .iload_n 2, 1), (52, .iaload, 1), (53, .iconst 4, 1), (54, .irem, 1), (55, .iaload, 1), (56, .goto 4, 3), (59, .iconst 0, 1), (60, .iadd, 1), (61, .istore_n 1, 1), (62, .iinc 2 1, 3), (65, .goto (-61), 3), (68, .iload_n 1, 1), (69, .ireturn, 1)]
theorem dX12_nobsOf : ∀ q ∈ tbX12_nobsOf, decode prog_14_method_73_code q.1 = .ok q.2 := by decide +kernel
set_option maxRecDepth 20000 in
theorem cX12_nobsOf (l : Launch) (w : WX) (hL : Lay w) (t : Nat) (ht : Wat w t 12 0) (M : Mem) : Ct l w yX12_nobsOf prog_14_method_73_code 3 (Option.some FieldType.int) 1 20 evI (emC M) [.ref t] M (FX12_nobsOf t M) := by
  refine ct_of (by decide) (Nat.le_of_ble_eq_true rfl) (fun x hl hx hb hz => ?_)
  subst hl
  have hd : ∀ i, DAt (xc x).code (tbX12_nobsOf[i]?) := fun i => by rw [hb]; exact dat_of dX12_nobsOf i
  show C x w (Qn x w evI (emC M)) 3 0 [(0, .ref t)] [] M (FX12_nobsOf t M)
  unfold FX12_nobsOf
  refine r_iconst (pc' := 1) (v := 0) hx (hd 0) (by decide) rfl ?_
  refine r_istore_n (pc' := 2) (L' := [(1, .int 0), (0, .ref t)]) hx (hd 1) rfl (by decide) rfl rfl ?_
  refine r_iconst (pc' := 3) (v := 0) hx (hd 2) (by decide) rfl ?_
  refine r_istore_n (pc' := 4) (L' := [(2, .int 0), (1, .int 0), (0, .ref t)]) hx (hd 3) rfl (by decide) rfl rfl ?_
  refine r_sub [2, 1, 0] rfl ?_
  refine r_wl2 (fun v1 v2 => [(0, .ref t), (1, .int v1), (2, .int v2)]) (fun v1 v2 => []) (fun v1 v2 => M) (fun v1 v2 rec3 ih4 => ?_) fuel 0 0
  refine r_iload_n (pc' := 5) hx (hd 4) rfl 2 rfl rfl ?_
  refine r_iconst (pc' := 6) (v := 4) hx (hd 5) (by decide) rfl ?_
  refine r_icmp_ge (tgt := 68) (pc' := 9) hx (hd 6) (by decide) (fun _ => ?_) rfl (fun _ => ?_)
  · skip
    refine r_iload_n (pc' := 69) hx (hd 43) rfl 1 rfl rfl ?_
    exact r_iret hx (hd 44) rfl rfl hz
  · skip
    refine r_iload_n (pc' := 10) hx (hd 7) rfl 1 rfl rfl ?_
    refine r_aload_n (pc' := 11) hx (hd 8) rfl 0 rfl rfl ?_
    refine r_get (pc' := 14) (v := .ref (t + 27)) hx (hd 9) fl_12_134 ht rfl (by decide) rfl ?_
    have h5 := hL.1 _ _ _ ht 47 27 20 5 rfl
    refine r_iload_n (pc' := 15) hx (hd 10) rfl 2 rfl rfl ?_
    refine r_gd (fun h6 => ?_)
    refine r_iald (pc' := 16) (k := ix v2) hx (hd 11) h5 h6 rfl rfl ?_
    refine r_callS (pc' := 19) (As := [.int (mI M (t + 27) (ix v2))]) (rest := [.int v1]) hx (hd 12) md_X12_rankOf mst_X12_rankOf ml_12_447 (cX12_rankOf (xl x) w hL (mI M (t + 27) (ix v2)) M) ⟨Nat.le_of_ble_eq_true rfl, Nat.le_of_ble_eq_true rfl⟩ rfl rfl (Nat.le_of_ble_eq_true rfl) (fun r7 => .int r7 :: [.int v1]) (fun _ => M) (fun _ => ⟨rfl, rfl⟩) rfl (fun r7 _ => ?_)
    refine r_bipush (pc' := 21) (v := 10) hx (hd 13) (by decide) rfl ?_
    refine r_jn1 60 (fun v8 => [(0, .ref t), (2, .int v2)]) (fun v8 => [.int v8, .int v1]) (fun v8 => M) (fun v8 => ?_) (fun j9 hj10 => ?_)
    · skip
      refine r_iadd (pc' := 61) hx (hd 39) rfl ?_
      refine r_nmI (fun v11 => ?_)
      refine r_istore_n (pc' := 62) (L' := [(1, .int v11), (0, .ref t), (2, .int v2)]) hx (hd 40) rfl (by decide) rfl rfl ?_
      refine r_iinc (pc' := 65) (v := 1) hx (hd 41) 2 rfl (by decide) (by decide) (fun v12 => [(2, .int v12), (1, .int v11), (0, .ref t)]) (fun _ => rfl) rfl (fun v12 => ?_)
      refine r_goto (tgt := 4) hx (hd 42) (by decide) ?_
      refine r_sub [2, 1, 0] rfl ?_
      exact ih4 v11 v12
    refine r_jn0 59 ([(0, .ref t), (2, .int v2)]) ([.int v1]) (M) (?_) (fun j13 hj14 => ?_)
    · skip
      refine r_iconst (pc' := 60) (v := 0) hx (hd 38) (by decide) rfl ?_
      exact hj10 0
    refine r_icmp_ne (tgt := 59) (pc' := 24) hx (hd 14) (by decide) (fun _ => ?_) rfl (fun _ => ?_)
    · skip
      refine r_sub [0, 2] rfl ?_
      exact hj14
    · skip
      refine r_aload_n (pc' := 25) hx (hd 15) rfl 0 rfl rfl ?_
      refine r_get (pc' := 28) (v := .ref (t + 27)) hx (hd 16) fl_12_134 ht rfl (by decide) rfl ?_
      have h15 := hL.1 _ _ _ ht 47 27 20 5 rfl
      refine r_iload_n (pc' := 29) hx (hd 17) rfl 2 rfl rfl ?_
      refine r_gd (fun h16 => ?_)
      refine r_iald (pc' := 30) (k := ix v2) hx (hd 18) h15 h16 rfl rfl ?_
      refine r_iconst (pc' := 31) (v := 4) hx (hd 19) (by decide) rfl ?_
      refine r_irem (pc' := 32) hx (hd 20) (by decide) rfl ?_
      refine r_aload_n (pc' := 33) hx (hd 21) rfl 0 rfl rfl ?_
      refine r_get (pc' := 36) (v := .ref (t + 27)) hx (hd 22) fl_12_134 ht rfl (by decide) rfl ?_
      have h17 := hL.1 _ _ _ ht 47 27 20 5 rfl
      refine r_iconst (pc' := 37) (v := 4) hx (hd 23) (by decide) rfl ?_
      refine r_iald (pc' := 38) (k := 4) hx (hd 24) h17 (by decide) (by decide) rfl ?_
      refine r_iconst (pc' := 39) (v := 4) hx (hd 25) (by decide) rfl ?_
      refine r_irem (pc' := 40) hx (hd 26) (by decide) rfl ?_
      refine r_icmp_ne (tgt := 59) (pc' := 43) hx (hd 27) (by decide) (fun _ => ?_) rfl (fun _ => ?_)
      · skip
        refine r_sub [0, 2] rfl ?_
        exact hj14
      · skip
        refine r_aload_n (pc' := 44) hx (hd 28) rfl 0 rfl rfl ?_
        refine r_get (pc' := 47) (v := .ref (t + 26)) hx (hd 29) fl_12_131 ht rfl (by decide) rfl ?_
        have h18 := hL.1 _ _ _ ht 46 26 20 4 rfl
        refine r_aload_n (pc' := 48) hx (hd 30) rfl 0 rfl rfl ?_
        refine r_get (pc' := 51) (v := .ref (t + 27)) hx (hd 31) fl_12_134 ht rfl (by decide) rfl ?_
        have h19 := hL.1 _ _ _ ht 47 27 20 5 rfl
        refine r_iload_n (pc' := 52) hx (hd 32) rfl 2 rfl rfl ?_
        refine r_gd (fun h20 => ?_)
        refine r_iald (pc' := 53) (k := ix v2) hx (hd 33) h19 h20 rfl rfl ?_
        refine r_iconst (pc' := 54) (v := 4) hx (hd 34) (by decide) rfl ?_
        refine r_irem (pc' := 55) hx (hd 35) (by decide) rfl ?_
        refine r_gd (fun h21 => ?_)
        refine r_iald (pc' := 56) (k := ix (irm (mI M (t + 27) (ix v2)) 4)) hx (hd 36) h18 h21 rfl rfl ?_
        refine r_goto (tgt := 60) hx (hd 37) (by decide) ?_
        refine r_sub [0, 2] rfl ?_
        exact hj10 (mI M (t + 26) (ix (irm (mI M (t + 27) (ix v2)) 4)))
abbrev yX12_countFive : MethodName := ({ cls := "CribbageRoomModel", name := "countFive", desc := "(I)I" } : Jvm.MethodName)
def tbX12_countFive : List (Nat × Instr × Nat) := [(0, .aload_n 0, 1), (1, .getfield 137, 3), (4, .iconst 1, 1), (5, .aload_n 0, 1), (6, .invokevirtual 466, 3), (9, .iastore, 1), (10, .aload_n 0, 1), (11, .getfield 137, 3), (14, .iconst 2, 1), (15, .aload_n 0, 1), (16, .invokevirtual 469, 3), (19, .iastore, 1), (20, .aload_n 0, 1), (21, .getfield 137, 3), (24, .iconst 3, 1), (25, .aload_n 0, 1), (26, .invokevirtual 472, 3), (29, .iastore, 1), (30, .aload_n 0, 1), (31, .getfield 137, 3), (34, .iconst 4, 1), (35, .aload_n 0, 1), (36, .iload_n 1, 1), (37, .invokevirtual 475, 3), (40, .iastore, 1), (41, .aload_n 0, 1), (42, .getfield 137, 3), (45, .iconst 5, 1), (46, .aload_n 0, 1), (47, .invokevirtual 478, 3), (50, .iastore, 1), (51, .aload_n 0, 1), (52, .getfield 137, 3), (55, .iconst 0, 1), (56, .aload_n 0, 1), (57, .getfield 137, 3), (60, .iconst 1, 1), (61, .iaload, 1), (62, .aload_n 0, 1), (63, .getfield 137, 3), (66, .iconst 2, 1), (67, .iaload, 1), (68, .iadd, 1), (69, .aload_n 0, 1), (70, .getfield 137, 3), (73, .iconst 3, 1), (74, .iaload, 1), (75, .iadd, 1), (76, .aload_n 0, 1), (77, .getfield 137, 3), (80, .iconst 4, 1), (81, .iaload, 1), (82, .iadd, 1), (83, .aload_n 0, 1), (84, .getfield 137, 3), (87, .iconst 5, 1), (88, .iaload, 1), (89, .iadd, 1), (90, .iastore, 1), (91, .aload_n 0, 1), (92, .getfield 137, 3), (95, .iconst 0, 1), (96, .iaload, 1), (97, .ireturn, 1)]
theorem dX12_countFive : ∀ q ∈ tbX12_countFive, decode prog_14_method_74_code q.1 = .ok q.2 := by decide +kernel
set_option maxRecDepth 20000 in
theorem cX12_countFive (l : Launch) (w : WX) (hL : Lay w) (t : Nat) (ht : Wat w t 12 0) (p1 : Int32) (M : Mem) : Ct l w yX12_countFive prog_14_method_74_code 2 (Option.some FieldType.int) 2 46 evIM emM [.ref t, .int p1] M (FX12_countFive t p1 M) := by
  refine ct_of (by decide) (Nat.le_of_ble_eq_true rfl) (fun x hl hx hb hz => ?_)
  subst hl
  have hd : ∀ i, DAt (xc x).code (tbX12_countFive[i]?) := fun i => by rw [hb]; exact dat_of dX12_countFive i
  show C x w (Qn x w evIM emM) 2 0 [(0, .ref t), (1, .int p1)] [] M (FX12_countFive t p1 M)
  unfold FX12_countFive
  refine r_aload_n (pc' := 1) hx (hd 0) rfl 0 rfl rfl ?_
  refine r_get (pc' := 4) (v := .ref (t + 28)) hx (hd 1) fl_12_137 ht rfl (by decide) rfl ?_
  have h1 := hL.1 _ _ _ ht 48 28 20 6 rfl
  refine r_iconst (pc' := 5) (v := 1) hx (hd 2) (by decide) rfl ?_
  refine r_aload_n (pc' := 6) hx (hd 3) rfl 0 rfl rfl ?_
  refine r_callV (pc' := 9) (As := []) (rest := [.int 1, .ref (t + 28)]) hx (hd 4) md_X12_fifteensOf mi_X12_fifteensOf ms_X12_fifteensOf ml_12_466 (cX12_fifteensOf (xl x) w hL t ht M) ht rfl (by decide) ⟨Nat.le_of_ble_eq_true rfl, Nat.le_of_ble_eq_true rfl⟩ rfl rfl (Nat.le_of_ble_eq_true rfl) (fun r2 => .int r2 :: [.int 1, .ref (t + 28)]) (fun _ => M) (fun _ => ⟨rfl, rfl⟩) rfl (fun r2 _ => ?_)
  refine r_iast (pc' := 10) (k := 1) hx (hd 5) h1 (by decide) (by decide) rfl (fun M3 => ?_)
  refine r_aload_n (pc' := 11) hx (hd 6) rfl 0 rfl rfl ?_
  refine r_get (pc' := 14) (v := .ref (t + 28)) hx (hd 7) fl_12_137 ht rfl (by decide) rfl ?_
  have h4 := hL.1 _ _ _ ht 48 28 20 6 rfl
  refine r_iconst (pc' := 15) (v := 2) hx (hd 8) (by decide) rfl ?_
  refine r_aload_n (pc' := 16) hx (hd 9) rfl 0 rfl rfl ?_
  refine r_callV (pc' := 19) (As := []) (rest := [.int 2, .ref (t + 28)]) hx (hd 10) md_X12_pairsOf mi_X12_pairsOf ms_X12_pairsOf ml_12_469 (cX12_pairsOf (xl x) w hL t ht M3) ht rfl (by decide) ⟨Nat.le_of_ble_eq_true rfl, Nat.le_of_ble_eq_true rfl⟩ rfl rfl (Nat.le_of_ble_eq_true rfl) (fun r5 => .int r5 :: [.int 2, .ref (t + 28)]) (fun _ => M3) (fun _ => ⟨rfl, rfl⟩) rfl (fun r5 _ => ?_)
  refine r_iast (pc' := 20) (k := 2) hx (hd 11) h4 (by decide) (by decide) rfl (fun M6 => ?_)
  refine r_aload_n (pc' := 21) hx (hd 12) rfl 0 rfl rfl ?_
  refine r_get (pc' := 24) (v := .ref (t + 28)) hx (hd 13) fl_12_137 ht rfl (by decide) rfl ?_
  have h7 := hL.1 _ _ _ ht 48 28 20 6 rfl
  refine r_iconst (pc' := 25) (v := 3) hx (hd 14) (by decide) rfl ?_
  refine r_aload_n (pc' := 26) hx (hd 15) rfl 0 rfl rfl ?_
  refine r_callVI (pc' := 29) (As := []) (rest := [.int 3, .ref (t + 28)]) hx (hd 16) md_X12_runsOf mi_X12_runsOf ms_X12_runsOf ml_12_472 (cX12_runsOf (xl x) w hL t ht M6) ht rfl (by decide) ⟨Nat.le_of_ble_eq_true rfl, Nat.le_of_ble_eq_true rfl⟩ rfl rfl (Nat.le_of_ble_eq_true rfl) (fun r9 => .int r9 :: [.int 3, .ref (t + 28)]) (fun _ => rfl) rfl (fun r9 M8 => ?_)
  refine r_iast (pc' := 30) (k := 3) hx (hd 17) h7 (by decide) (by decide) rfl (fun M10 => ?_)
  refine r_aload_n (pc' := 31) hx (hd 18) rfl 0 rfl rfl ?_
  refine r_get (pc' := 34) (v := .ref (t + 28)) hx (hd 19) fl_12_137 ht rfl (by decide) rfl ?_
  have h11 := hL.1 _ _ _ ht 48 28 20 6 rfl
  refine r_iconst (pc' := 35) (v := 4) hx (hd 20) (by decide) rfl ?_
  refine r_aload_n (pc' := 36) hx (hd 21) rfl 0 rfl rfl ?_
  refine r_iload_n (pc' := 37) hx (hd 22) rfl 1 rfl rfl ?_
  refine r_callV (pc' := 40) (As := [.int p1]) (rest := [.int 4, .ref (t + 28)]) hx (hd 23) md_X12_flushOf mi_X12_flushOf ms_X12_flushOf ml_12_475 (cX12_flushOf (xl x) w hL t ht p1 M10) ht rfl (by decide) ⟨Nat.le_of_ble_eq_true rfl, Nat.le_of_ble_eq_true rfl⟩ rfl rfl (Nat.le_of_ble_eq_true rfl) (fun r12 => .int r12 :: [.int 4, .ref (t + 28)]) (fun _ => M10) (fun _ => ⟨rfl, rfl⟩) rfl (fun r12 _ => ?_)
  refine r_iast (pc' := 41) (k := 4) hx (hd 24) h11 (by decide) (by decide) rfl (fun M13 => ?_)
  refine r_aload_n (pc' := 42) hx (hd 25) rfl 0 rfl rfl ?_
  refine r_get (pc' := 45) (v := .ref (t + 28)) hx (hd 26) fl_12_137 ht rfl (by decide) rfl ?_
  have h14 := hL.1 _ _ _ ht 48 28 20 6 rfl
  refine r_iconst (pc' := 46) (v := 5) hx (hd 27) (by decide) rfl ?_
  refine r_aload_n (pc' := 47) hx (hd 28) rfl 0 rfl rfl ?_
  refine r_callV (pc' := 50) (As := []) (rest := [.int 5, .ref (t + 28)]) hx (hd 29) md_X12_nobsOf mi_X12_nobsOf ms_X12_nobsOf ml_12_478 (cX12_nobsOf (xl x) w hL t ht M13) ht rfl (by decide) ⟨Nat.le_of_ble_eq_true rfl, Nat.le_of_ble_eq_true rfl⟩ rfl rfl (Nat.le_of_ble_eq_true rfl) (fun r15 => .int r15 :: [.int 5, .ref (t + 28)]) (fun _ => M13) (fun _ => ⟨rfl, rfl⟩) rfl (fun r15 _ => ?_)
  refine r_iast (pc' := 51) (k := 5) hx (hd 30) h14 (by decide) (by decide) rfl (fun M16 => ?_)
  refine r_aload_n (pc' := 52) hx (hd 31) rfl 0 rfl rfl ?_
  refine r_get (pc' := 55) (v := .ref (t + 28)) hx (hd 32) fl_12_137 ht rfl (by decide) rfl ?_
  have h17 := hL.1 _ _ _ ht 48 28 20 6 rfl
  refine r_iconst (pc' := 56) (v := 0) hx (hd 33) (by decide) rfl ?_
  refine r_aload_n (pc' := 57) hx (hd 34) rfl 0 rfl rfl ?_
  refine r_get (pc' := 60) (v := .ref (t + 28)) hx (hd 35) fl_12_137 ht rfl (by decide) rfl ?_
  have h18 := hL.1 _ _ _ ht 48 28 20 6 rfl
  refine r_iconst (pc' := 61) (v := 1) hx (hd 36) (by decide) rfl ?_
  refine r_iald (pc' := 62) (k := 1) hx (hd 37) h18 (by decide) (by decide) rfl ?_
  refine r_aload_n (pc' := 63) hx (hd 38) rfl 0 rfl rfl ?_
  refine r_get (pc' := 66) (v := .ref (t + 28)) hx (hd 39) fl_12_137 ht rfl (by decide) rfl ?_
  have h19 := hL.1 _ _ _ ht 48 28 20 6 rfl
  refine r_iconst (pc' := 67) (v := 2) hx (hd 40) (by decide) rfl ?_
  refine r_iald (pc' := 68) (k := 2) hx (hd 41) h19 (by decide) (by decide) rfl ?_
  refine r_iadd (pc' := 69) hx (hd 42) rfl ?_
  refine r_aload_n (pc' := 70) hx (hd 43) rfl 0 rfl rfl ?_
  refine r_get (pc' := 73) (v := .ref (t + 28)) hx (hd 44) fl_12_137 ht rfl (by decide) rfl ?_
  have h20 := hL.1 _ _ _ ht 48 28 20 6 rfl
  refine r_iconst (pc' := 74) (v := 3) hx (hd 45) (by decide) rfl ?_
  refine r_iald (pc' := 75) (k := 3) hx (hd 46) h20 (by decide) (by decide) rfl ?_
  refine r_iadd (pc' := 76) hx (hd 47) rfl ?_
  refine r_aload_n (pc' := 77) hx (hd 48) rfl 0 rfl rfl ?_
  refine r_get (pc' := 80) (v := .ref (t + 28)) hx (hd 49) fl_12_137 ht rfl (by decide) rfl ?_
  have h21 := hL.1 _ _ _ ht 48 28 20 6 rfl
  refine r_iconst (pc' := 81) (v := 4) hx (hd 50) (by decide) rfl ?_
  refine r_iald (pc' := 82) (k := 4) hx (hd 51) h21 (by decide) (by decide) rfl ?_
  refine r_iadd (pc' := 83) hx (hd 52) rfl ?_
  refine r_aload_n (pc' := 84) hx (hd 53) rfl 0 rfl rfl ?_
  refine r_get (pc' := 87) (v := .ref (t + 28)) hx (hd 54) fl_12_137 ht rfl (by decide) rfl ?_
  have h22 := hL.1 _ _ _ ht 48 28 20 6 rfl
  refine r_iconst (pc' := 88) (v := 5) hx (hd 55) (by decide) rfl ?_
  refine r_iald (pc' := 89) (k := 5) hx (hd 56) h22 (by decide) (by decide) rfl ?_
  refine r_iadd (pc' := 90) hx (hd 57) rfl ?_
  refine r_iast (pc' := 91) (k := 0) hx (hd 58) h17 (by decide) (by decide) rfl (fun M23 => ?_)
  refine r_aload_n (pc' := 92) hx (hd 59) rfl 0 rfl rfl ?_
  refine r_get (pc' := 95) (v := .ref (t + 28)) hx (hd 60) fl_12_137 ht rfl (by decide) rfl ?_
  have h24 := hL.1 _ _ _ ht 48 28 20 6 rfl
  refine r_iconst (pc' := 96) (v := 0) hx (hd 61) (by decide) rfl ?_
  refine r_iald (pc' := 97) (k := 0) hx (hd 62) h24 (by decide) (by decide) rfl ?_
  exact r_iret hx (hd 63) rfl rfl hz
abbrev yX12_countAt : MethodName := ({ cls := "CribbageRoomModel", name := "countAt", desc := "(II)I" } : Jvm.MethodName)
def tbX12_countAt : List (Nat × Instr × Nat) := [(0, .iconst 0, 1), (1, .istore_n 3, 1), (2, .iconst 0, 1), (3, .istore 4, 2), (5, .iload 4, 2), (7, .bipush 52, 2), (9, .if_icmp .ge 34, 3), (12, .aload_n 0, 1), (13, .getfield 13, 3), (16, .bipush 18, 2), (18, .iload 4, 2), (20, .iadd, 1), (21, .iaload, 1), (22, .iload_n 1, 1), (23, .if_icmp .ne 14, 3), (26, .aload_n 0, 1), (27, .getfield 134, 3), (30, .iload_n 3, 1), (31, .iload 4, 2), (33, .iastore, 1), (34, .iinc 3 1, 3), (37, .iinc 4 1, 3), (40, .goto (-35), 3), (43, .aload_n 0, 1), (44, .getfield 134, 3), (47, .iconst 4, 1), (48, .aload_n 0, 1), (49, .getfield 13, 3), (52, .bipush 11, 2), (54, .iaload, 1), (55, .iastore, 1), (56, .aload_n 0, 1), (57, .iload_n 2, 1), (58, .invokevirtual 481, 3), (61, .aload_n 0, 1), (62, .iload_n 2, 1), (63, .invokevirtual 484, 3), (66, .ireturn, 1)]
theorem dX12_countAt : ∀ q ∈ tbX12_countAt, decode prog_14_method_75_code q.1 = .ok q.2 := by decide +kernel
set_option maxRecDepth 20000 in
theorem cX12_countAt (l : Launch) (w : WX) (hL : Lay w) (t : Nat) (ht : Wat w t 12 0) (p1 : Int32) (p2 : Int32) (M : Mem) : Ct l w yX12_countAt prog_14_method_75_code 5 (Option.some FieldType.int) 6 151 evIM emM [.ref t, .int p1, .int p2] M (FX12_countAt t p1 p2 M) := by
  refine ct_of (by decide) (Nat.le_of_ble_eq_true rfl) (fun x hl hx hb hz => ?_)
  subst hl
  have hd : ∀ i, DAt (xc x).code (tbX12_countAt[i]?) := fun i => by rw [hb]; exact dat_of dX12_countAt i
  show C x w (Qn x w evIM emM) 5 0 [(0, .ref t), (1, .int p1), (2, .int p2)] [] M (FX12_countAt t p1 p2 M)
  unfold FX12_countAt
  refine r_iconst (pc' := 1) (v := 0) hx (hd 0) (by decide) rfl ?_
  refine r_istore_n (pc' := 2) (L' := [(3, .int 0), (0, .ref t), (1, .int p1), (2, .int p2)]) hx (hd 1) rfl (by decide) rfl rfl ?_
  refine r_iconst (pc' := 3) (v := 0) hx (hd 2) (by decide) rfl ?_
  refine r_istore (pc' := 5) (L' := [(4, .int 0), (3, .int 0), (0, .ref t), (1, .int p1), (2, .int p2)]) hx (hd 3) (by decide) rfl rfl ?_
  refine r_sub [2, 3, 4, 1, 0] rfl ?_
  refine r_wl3 (fun v1 v2 M3 => [(0, .ref t), (1, .int p1), (2, .int p2), (3, .int v1), (4, .int v2)]) (fun v1 v2 M3 => []) (fun v1 v2 M3 => M3) (fun v1 v2 M3 rec4 ih5 => ?_) fuel 0 0 M
  refine r_iload (pc' := 7) hx (hd 4) 4 rfl rfl ?_
  refine r_bipush (pc' := 9) (v := 52) hx (hd 5) (by decide) rfl ?_
  refine r_icmp_ge (tgt := 43) (pc' := 12) hx (hd 6) (by decide) (fun _ => ?_) rfl (fun _ => ?_)
  · skip
    refine r_aload_n (pc' := 44) hx (hd 23) rfl 0 rfl rfl ?_
    refine r_get (pc' := 47) (v := .ref (t + 27)) hx (hd 24) fl_12_134 ht rfl (by decide) rfl ?_
    have h6 := hL.1 _ _ _ ht 47 27 20 5 rfl
    refine r_iconst (pc' := 48) (v := 4) hx (hd 25) (by decide) rfl ?_
    refine r_aload_n (pc' := 49) hx (hd 26) rfl 0 rfl rfl ?_
    refine r_get (pc' := 52) (v := .ref (t + 2)) hx (hd 27) fl_12_13 ht rfl (by decide) rfl ?_
    have h7 := hL.1 _ _ _ ht 3 2 20 5594 rfl
    refine r_bipush (pc' := 54) (v := 11) hx (hd 28) (by decide) rfl ?_
    refine r_iald (pc' := 55) (k := 11) hx (hd 29) h7 (by decide) (by decide) rfl ?_
    refine r_iast (pc' := 56) (k := 4) hx (hd 30) h6 (by decide) (by decide) rfl (fun M8 => ?_)
    refine r_aload_n (pc' := 57) hx (hd 31) rfl 0 rfl rfl ?_
    refine r_iload_n (pc' := 58) hx (hd 32) rfl 2 rfl rfl ?_
    refine r_callVU (pc' := 61) (As := [.int p2]) (rest := []) hx (hd 33) md_X12_layCounts mi_X12_layCounts ms_X12_layCounts ml_12_481 (cX12_layCounts (xl x) w hL t ht p2 M8) ht rfl (by decide) ⟨Nat.le_of_ble_eq_true rfl, Nat.le_of_ble_eq_true rfl⟩ rfl rfl (Nat.le_of_ble_eq_true rfl) rfl (fun M9 => ?_)
    refine r_aload_n (pc' := 62) hx (hd 34) rfl 0 rfl rfl ?_
    refine r_iload_n (pc' := 63) hx (hd 35) rfl 2 rfl rfl ?_
    refine r_callVI (pc' := 66) (As := [.int p2]) (rest := []) hx (hd 36) md_X12_countFive mi_X12_countFive ms_X12_countFive ml_12_484 (cX12_countFive (xl x) w hL t ht p2 M9) ht rfl (by decide) ⟨Nat.le_of_ble_eq_true rfl, Nat.le_of_ble_eq_true rfl⟩ rfl rfl (Nat.le_of_ble_eq_true rfl) (fun r11 => .int r11 :: []) (fun _ => rfl) rfl (fun r11 M10 => ?_)
    exact r_iret hx (hd 37) rfl rfl hz
  · skip
    refine r_aload_n (pc' := 13) hx (hd 7) rfl 0 rfl rfl ?_
    refine r_get (pc' := 16) (v := .ref (t + 2)) hx (hd 8) fl_12_13 ht rfl (by decide) rfl ?_
    have h12 := hL.1 _ _ _ ht 3 2 20 5594 rfl
    refine r_bipush (pc' := 18) (v := 18) hx (hd 9) (by decide) rfl ?_
    refine r_iload (pc' := 20) hx (hd 10) 4 rfl rfl ?_
    refine r_iadd (pc' := 21) hx (hd 11) rfl ?_
    refine r_gd (fun h13 => ?_)
    refine r_iald (pc' := 22) (k := ix (18 + v2)) hx (hd 12) h12 h13 rfl rfl ?_
    refine r_iload_n (pc' := 23) hx (hd 13) rfl 1 rfl rfl ?_
    refine r_jn2 37 (fun v14 M15 => [(0, .ref t), (1, .int p1), (2, .int p2), (3, .int v14), (4, .int v2)]) (fun v14 M15 => []) (fun v14 M15 => M15) (fun v14 M15 => ?_) (fun j16 hj17 => ?_)
    · skip
      refine r_iinc (pc' := 40) (v := 1) hx (hd 21) 4 rfl (by decide) (by decide) (fun v18 => [(4, .int v18), (0, .ref t), (1, .int p1), (2, .int p2), (3, .int v14)]) (fun _ => rfl) rfl (fun v18 => ?_)
      refine r_goto (tgt := 5) hx (hd 22) (by decide) ?_
      refine r_sub [1, 2, 3, 4, 0] rfl ?_
      exact ih5 v14 v18 M15
    refine r_icmp_ne (tgt := 37) (pc' := 26) hx (hd 14) (by decide) (fun _ => ?_) rfl (fun _ => ?_)
    · skip
      exact hj17 v1 M3
    · skip
      refine r_aload_n (pc' := 27) hx (hd 15) rfl 0 rfl rfl ?_
      refine r_get (pc' := 30) (v := .ref (t + 27)) hx (hd 16) fl_12_134 ht rfl (by decide) rfl ?_
      have h19 := hL.1 _ _ _ ht 47 27 20 5 rfl
      refine r_iload_n (pc' := 31) hx (hd 17) rfl 3 rfl rfl ?_
      refine r_iload (pc' := 33) hx (hd 18) 4 rfl rfl ?_
      refine r_gd (fun h21 => ?_)
      refine r_iast (pc' := 34) (k := ix v1) hx (hd 19) h19 h21 rfl rfl (fun M20 => ?_)
      refine r_iinc (pc' := 37) (v := 1) hx (hd 20) 3 rfl (by decide) (by decide) (fun v22 => [(3, .int v22), (0, .ref t), (1, .int p1), (2, .int p2), (4, .int v2)]) (fun _ => rfl) rfl (fun v22 => ?_)
      refine r_sub [1, 2, 3, 0, 4] rfl ?_
      exact hj17 v22 M20
abbrev yX12_showIt : MethodName := ({ cls := "CribbageRoomModel", name := "showIt", desc := "()I" } : Jvm.MethodName)
def tbX12_showIt : List (Nat × Instr × Nat) := [(0, .aload_n 0, 1), (1, .getfield 13, 3), (4, .bipush 10, 2), (6, .iaload, 1), (7, .istore_n 1, 1), (8, .aload_n 0, 1), (9, .iconst 1, 1), (10, .iload_n 1, 1), (11, .isub, 1), (12, .iconst 0, 1), (13, .invokevirtual 545, 3), (16, .istore_n 2, 1), (17, .aload_n 0, 1), (18, .iload_n 1, 1), (19, .iconst 0, 1), (20, .invokevirtual 545, 3), (23, .istore_n 3, 1), (24, .aload_n 0, 1), (25, .iconst 2, 1), (26, .iconst 1, 1), (27, .invokevirtual 545, 3), (30, .istore 4, 2), (32, .aload_n 0, 1), (33, .iconst 1, 1), (34, .iload_n 1, 1), (35, .isub, 1), (36, .iload_n 2, 1), (37, .invokevirtual 515, 3), (40, .aload_n 0, 1), (41, .iload_n 1, 1), (42, .iload_n 3, 1), (43, .iload 4, 2), (45, .iadd, 1), (46, .invokevirtual 515, 3), (49, .aload_n 0, 1), (50, .getfield 13, 3), (53, .bipush 9, 2), (55, .iconst 3, 1), (56, .iastore, 1), (57, .iload_n 2, 1), (58, .iload_n 3, 1), (59, .iadd, 1), (60, .iload 4, 2), (62, .iadd, 1), (63, .ireturn, 1)]
theorem dX12_showIt : ∀ q ∈ tbX12_showIt, decode prog_14_method_95_code q.1 = .ok q.2 := by decide +kernel
set_option maxRecDepth 20000 in
theorem cX12_showIt (l : Launch) (w : WX) (hL : Lay w) (t : Nat) (ht : Wat w t 12 0) (M : Mem) : Ct l w yX12_showIt prog_14_method_95_code 5 (Option.some FieldType.int) 7 175 evIM emM [.ref t] M (FX12_showIt t M) := by
  refine ct_of (by decide) (Nat.le_of_ble_eq_true rfl) (fun x hl hx hb hz => ?_)
  subst hl
  have hd : ∀ i, DAt (xc x).code (tbX12_showIt[i]?) := fun i => by rw [hb]; exact dat_of dX12_showIt i
  show C x w (Qn x w evIM emM) 5 0 [(0, .ref t)] [] M (FX12_showIt t M)
  unfold FX12_showIt
  refine r_aload_n (pc' := 1) hx (hd 0) rfl 0 rfl rfl ?_
  refine r_get (pc' := 4) (v := .ref (t + 2)) hx (hd 1) fl_12_13 ht rfl (by decide) rfl ?_
  have h1 := hL.1 _ _ _ ht 3 2 20 5594 rfl
  refine r_bipush (pc' := 6) (v := 10) hx (hd 2) (by decide) rfl ?_
  refine r_iald (pc' := 7) (k := 10) hx (hd 3) h1 (by decide) (by decide) rfl ?_
  refine r_nmI (fun v2 => ?_)
  refine r_istore_n (pc' := 8) (L' := [(1, .int v2), (0, .ref t)]) hx (hd 4) rfl (by decide) rfl rfl ?_
  refine r_aload_n (pc' := 9) hx (hd 5) rfl 1 rfl rfl ?_
  refine r_iconst (pc' := 10) (v := 1) hx (hd 6) (by decide) rfl ?_
  refine r_iload_n (pc' := 11) hx (hd 7) rfl 0 rfl rfl ?_
  refine r_isub (pc' := 12) hx (hd 8) rfl ?_
  refine r_iconst (pc' := 13) (v := 0) hx (hd 9) (by decide) rfl ?_
  refine r_callVI (pc' := 16) (As := [.int (1 - v2), .int 0]) (rest := []) hx (hd 10) md_X12_countAt mi_X12_countAt ms_X12_countAt ml_12_545 (cX12_countAt (xl x) w hL t ht (1 - v2) 0 M) ht rfl (by decide) ⟨Nat.le_of_ble_eq_true rfl, Nat.le_of_ble_eq_true rfl⟩ rfl rfl (Nat.le_of_ble_eq_true rfl) (fun r4 => .int r4 :: []) (fun _ => rfl) rfl (fun r4 M3 => ?_)
  refine r_istore_n (pc' := 17) (L' := [(2, .int r4), (1, .int v2), (0, .ref t)]) hx (hd 11) rfl (by decide) rfl rfl ?_
  refine r_aload_n (pc' := 18) hx (hd 12) rfl 2 rfl rfl ?_
  refine r_iload_n (pc' := 19) hx (hd 13) rfl 1 rfl rfl ?_
  refine r_iconst (pc' := 20) (v := 0) hx (hd 14) (by decide) rfl ?_
  refine r_callVI (pc' := 23) (As := [.int v2, .int 0]) (rest := []) hx (hd 15) md_X12_countAt mi_X12_countAt ms_X12_countAt ml_12_545 (cX12_countAt (xl x) w hL t ht v2 0 M3) ht rfl (by decide) ⟨Nat.le_of_ble_eq_true rfl, Nat.le_of_ble_eq_true rfl⟩ rfl rfl (Nat.le_of_ble_eq_true rfl) (fun r6 => .int r6 :: []) (fun _ => rfl) rfl (fun r6 M5 => ?_)
  refine r_istore_n (pc' := 24) (L' := [(3, .int r6), (2, .int r4), (1, .int v2), (0, .ref t)]) hx (hd 16) rfl (by decide) rfl rfl ?_
  refine r_aload_n (pc' := 25) hx (hd 17) rfl 3 rfl rfl ?_
  refine r_iconst (pc' := 26) (v := 2) hx (hd 18) (by decide) rfl ?_
  refine r_iconst (pc' := 27) (v := 1) hx (hd 19) (by decide) rfl ?_
  refine r_callVI (pc' := 30) (As := [.int 2, .int 1]) (rest := []) hx (hd 20) md_X12_countAt mi_X12_countAt ms_X12_countAt ml_12_545 (cX12_countAt (xl x) w hL t ht 2 1 M5) ht rfl (by decide) ⟨Nat.le_of_ble_eq_true rfl, Nat.le_of_ble_eq_true rfl⟩ rfl rfl (Nat.le_of_ble_eq_true rfl) (fun r8 => .int r8 :: []) (fun _ => rfl) rfl (fun r8 M7 => ?_)
  refine r_istore (pc' := 32) (L' := [(4, .int r8), (3, .int r6), (2, .int r4), (1, .int v2), (0, .ref t)]) hx (hd 21) (by decide) rfl rfl ?_
  refine r_aload_n (pc' := 33) hx (hd 22) rfl 4 rfl rfl ?_
  refine r_iconst (pc' := 34) (v := 1) hx (hd 23) (by decide) rfl ?_
  refine r_iload_n (pc' := 35) hx (hd 24) rfl 3 rfl rfl ?_
  refine r_isub (pc' := 36) hx (hd 25) rfl ?_
  refine r_iload_n (pc' := 37) hx (hd 26) rfl 2 rfl rfl ?_
  refine r_callVU (pc' := 40) (As := [.int (1 - v2), .int r4]) (rest := []) hx (hd 27) md_X12_peg mi_X12_peg ms_X12_peg ml_12_515 (cX12_peg (xl x) w hL t ht (1 - v2) r4 M7) ht rfl (by decide) ⟨Nat.le_of_ble_eq_true rfl, Nat.le_of_ble_eq_true rfl⟩ rfl rfl (Nat.le_of_ble_eq_true rfl) rfl (fun M9 => ?_)
  refine r_aload_n (pc' := 41) hx (hd 28) rfl 4 rfl rfl ?_
  refine r_iload_n (pc' := 42) hx (hd 29) rfl 3 rfl rfl ?_
  refine r_iload_n (pc' := 43) hx (hd 30) rfl 1 rfl rfl ?_
  refine r_iload (pc' := 45) hx (hd 31) 0 rfl rfl ?_
  refine r_iadd (pc' := 46) hx (hd 32) rfl ?_
  refine r_callVU (pc' := 49) (As := [.int v2, .int (r6 + r8)]) (rest := []) hx (hd 33) md_X12_peg mi_X12_peg ms_X12_peg ml_12_515 (cX12_peg (xl x) w hL t ht v2 (r6 + r8) M9) ht rfl (by decide) ⟨Nat.le_of_ble_eq_true rfl, Nat.le_of_ble_eq_true rfl⟩ rfl rfl (Nat.le_of_ble_eq_true rfl) rfl (fun M10 => ?_)
  refine r_aload_n (pc' := 50) hx (hd 34) rfl 4 rfl rfl ?_
  refine r_get (pc' := 53) (v := .ref (t + 2)) hx (hd 35) fl_12_13 ht rfl (by decide) rfl ?_
  have h11 := hL.1 _ _ _ ht 3 2 20 5594 rfl
  refine r_bipush (pc' := 55) (v := 9) hx (hd 36) (by decide) rfl ?_
  refine r_iconst (pc' := 56) (v := 3) hx (hd 37) (by decide) rfl ?_
  refine r_iast (pc' := 57) (k := 9) hx (hd 38) h11 (by decide) (by decide) rfl (fun M12 => ?_)
  refine r_iload_n (pc' := 58) hx (hd 39) rfl 2 rfl rfl ?_
  refine r_iload_n (pc' := 59) hx (hd 40) rfl 1 rfl rfl ?_
  refine r_iadd (pc' := 60) hx (hd 41) rfl ?_
  refine r_iload (pc' := 62) hx (hd 42) 0 rfl rfl ?_
  refine r_iadd (pc' := 63) hx (hd 43) rfl ?_
  exact r_iret hx (hd 44) rfl rfl hz
abbrev yX12_showNow : MethodName := ({ cls := "CribbageRoomModel", name := "showNow", desc := "()I" } : Jvm.MethodName)
def tbX12_showNow : List (Nat × Instr × Nat) := [(0, .aload_n 0, 1), (1, .getfield 13, 3), (4, .bipush 9, 2), (6, .iaload, 1), (7, .iconst 2, 1), (8, .if_icmp .ne 14, 3), (11, .aload_n 0, 1), (12, .getfield 13, 3), (15, .bipush 14, 2), (17, .iaload, 1), (18, .iconst (-1), 1), (19, .if_icmp .eq 6, 3), (22, .bipush (-3), 2), (24, .ireturn, 1), (25, .aload_n 0, 1), (26, .iconst 3, 1), (27, .invokevirtual 500, 3), (30, .aload_n 0, 1), (31, .invokevirtual 548, 3), (34, .ireturn, 1)]
theorem dX12_showNow : ∀ q ∈ tbX12_showNow, decode prog_14_method_96_code q.1 = .ok q.2 := by decide +kernel
set_option maxRecDepth 20000 in
theorem cX12_showNow (l : Launch) (w : WX) (hL : Lay w) (t : Nat) (ht : Wat w t 12 0) (M : Mem) : Ct l w yX12_showNow prog_14_method_96_code 1 (Option.some FieldType.int) 8 199 evIM emM [.ref t] M (FX12_showNow t M) := by
  refine ct_of (by decide) (Nat.le_of_ble_eq_true rfl) (fun x hl hx hb hz => ?_)
  subst hl
  have hd : ∀ i, DAt (xc x).code (tbX12_showNow[i]?) := fun i => by rw [hb]; exact dat_of dX12_showNow i
  show C x w (Qn x w evIM emM) 1 0 [(0, .ref t)] [] M (FX12_showNow t M)
  unfold FX12_showNow
  refine r_aload_n (pc' := 1) hx (hd 0) rfl 0 rfl rfl ?_
  refine r_get (pc' := 4) (v := .ref (t + 2)) hx (hd 1) fl_12_13 ht rfl (by decide) rfl ?_
  have h1 := hL.1 _ _ _ ht 3 2 20 5594 rfl
  refine r_bipush (pc' := 6) (v := 9) hx (hd 2) (by decide) rfl ?_
  refine r_iald (pc' := 7) (k := 9) hx (hd 3) h1 (by decide) (by decide) rfl ?_
  refine r_iconst (pc' := 8) (v := 2) hx (hd 4) (by decide) rfl ?_
  refine r_jn0 22 ([]) ([]) (M) (?_) (fun j2 hj3 => ?_)
  · skip
    refine r_bipush (pc' := 24) (v := (-3)) hx (hd 12) (by decide) rfl ?_
    exact r_iret hx (hd 13) rfl rfl hz
  refine r_icmp_ne (tgt := 22) (pc' := 11) hx (hd 5) (by decide) (fun _ => ?_) rfl (fun _ => ?_)
  · skip
    refine r_sub [] rfl ?_
    exact hj3
  · skip
    refine r_aload_n (pc' := 12) hx (hd 6) rfl 0 rfl rfl ?_
    refine r_get (pc' := 15) (v := .ref (t + 2)) hx (hd 7) fl_12_13 ht rfl (by decide) rfl ?_
    have h4 := hL.1 _ _ _ ht 3 2 20 5594 rfl
    refine r_bipush (pc' := 17) (v := 14) hx (hd 8) (by decide) rfl ?_
    refine r_iald (pc' := 18) (k := 14) hx (hd 9) h4 (by decide) (by decide) rfl ?_
    refine r_iconst (pc' := 19) (v := (-1)) hx (hd 10) (by decide) rfl ?_
    refine r_icmp_eq (tgt := 25) (pc' := 22) hx (hd 11) (by decide) (fun _ => ?_) rfl (fun _ => ?_)
    · skip
      refine r_aload_n (pc' := 26) hx (hd 14) rfl 0 rfl rfl ?_
      refine r_iconst (pc' := 27) (v := 3) hx (hd 15) (by decide) rfl ?_
      refine r_callVU (pc' := 30) (As := [.int 3]) (rest := []) hx (hd 16) md_X12_remember mi_X12_remember ms_X12_remember ml_12_500 (cX12_remember (xl x) w hL t ht 3 M) ht rfl (by decide) ⟨Nat.le_of_ble_eq_true rfl, Nat.le_of_ble_eq_true rfl⟩ rfl rfl (Nat.le_of_ble_eq_true rfl) rfl (fun M5 => ?_)
      refine r_aload_n (pc' := 31) hx (hd 17) rfl 0 rfl rfl ?_
      refine r_callVI (pc' := 34) (As := []) (rest := []) hx (hd 18) md_X12_showIt mi_X12_showIt ms_X12_showIt ml_12_548 (cX12_showIt (xl x) w hL t ht M5) ht rfl (by decide) ⟨Nat.le_of_ble_eq_true rfl, Nat.le_of_ble_eq_true rfl⟩ rfl rfl (Nat.le_of_ble_eq_true rfl) (fun r7 => .int r7 :: []) (fun _ => rfl) rfl (fun r7 M6 => ?_)
      exact r_iret hx (hd 19) rfl rfl hz
    · skip
      refine r_sub [] rfl ?_
      exact hj3
abbrev yX12_show : MethodName := ({ cls := "CribbageRoomModel", name := "show", desc := "()I" } : Jvm.MethodName)
def tbX12_show : List (Nat × Instr × Nat) := [(0, .aload_n 0, 1), (1, .iconst 0, 1), (2, .putfield 188, 3), (5, .aload_n 0, 1), (6, .aload_n 0, 1), (7, .invokevirtual 551, 3), (10, .invokevirtual 197, 3), (13, .ireturn, 1)]
theorem dX12_show : ∀ q ∈ tbX12_show, decode prog_14_method_97_code q.1 = .ok q.2 := by decide +kernel
set_option maxRecDepth 20000 in
theorem cX12_show (l : Launch) (w : WX) (hL : Lay w) (t : Nat) (ht : Wat w t 12 0) (M : Mem) : Ct l w yX12_show prog_14_method_97_code 1 (Option.some FieldType.int) 9 219 evIM emM [.ref t] M (FX12_show t M) := by
  refine ct_of (by decide) (Nat.le_of_ble_eq_true rfl) (fun x hl hx hb hz => ?_)
  subst hl
  have hd : ∀ i, DAt (xc x).code (tbX12_show[i]?) := fun i => by rw [hb]; exact dat_of dX12_show i
  show C x w (Qn x w evIM emM) 1 0 [(0, .ref t)] [] M (FX12_show t M)
  unfold FX12_show
  refine r_aload_n (pc' := 1) hx (hd 0) rfl 0 rfl rfl ?_
  refine r_iconst (pc' := 2) (v := 0) hx (hd 1) (by decide) rfl ?_
  refine r_putI (pc' := 5) hx (hd 2) fp_12_188 ht rfl (by decide) rfl (fun M1 => ?_)
  refine r_aload_n (pc' := 6) hx (hd 3) rfl 0 rfl rfl ?_
  refine r_aload_n (pc' := 7) hx (hd 4) rfl 0 rfl rfl ?_
  refine r_callVI (pc' := 10) (As := []) (rest := [.ref t]) hx (hd 5) md_X12_showNow mi_X12_showNow ms_X12_showNow ml_12_551 (cX12_showNow (xl x) w hL t ht M1) ht rfl (by decide) ⟨Nat.le_of_ble_eq_true rfl, Nat.le_of_ble_eq_true rfl⟩ rfl rfl (Nat.le_of_ble_eq_true rfl) (fun r3 => .int r3 :: [.ref t]) (fun _ => rfl) rfl (fun r3 M2 => ?_)
  refine r_callVI (pc' := 13) (As := [.int r3]) (rest := []) hx (hd 6) md_X12_tell mi_X12_tell ms_X12_tell ml_12_197 (cX12_tell (xl x) w hL t ht r3 M2) ht rfl (by decide) ⟨Nat.le_of_ble_eq_true rfl, Nat.le_of_ble_eq_true rfl⟩ rfl rfl (Nat.le_of_ble_eq_true rfl) (fun r5 => .int r5 :: []) (fun _ => rfl) rfl (fun r5 M4 => ?_)
  exact r_iret hx (hd 7) rfl rfl hz
abbrev yX12_heldOnes : MethodName := ({ cls := "CribbageRoomModel", name := "heldOnes", desc := "()I" } : Jvm.MethodName)
def tbX12_heldOnes : List (Nat × Instr × Nat) := [(0, .iconst 0, 1), (1, .istore_n 1, 1), (2, .iconst 0, 1), (3, .istore_n 2, 1), (4, .iload_n 2, 1), (5, .bipush 52, 2), (7, .if_icmp .ge 22, 3), (10, .iload_n 1, 1), (11, .aload_n 0, 1), (12, .getfield 13, 3), (15, .sipush 130, 3), (18, .iload_n 2, 1), (19, .iadd, 1), (20, .iaload, 1), (21, .iadd, 1), (22, .istore_n 1, 1), (23, .iinc 2 1, 3), (26, .goto (-22), 3), (29, .iload_n 1, 1), (30, .ireturn, 1)]
theorem dX12_heldOnes : ∀ q ∈ tbX12_heldOnes, decode prog_14_method_21_code q.1 = .ok q.2 := by decide +kernel
set_option maxRecDepth 20000 in
theorem cX12_heldOnes (l : Launch) (w : WX) (hL : Lay w) (t : Nat) (ht : Wat w t 12 0) (M : Mem) : Ct l w yX12_heldOnes prog_14_method_21_code 3 (Option.some FieldType.int) 0 0 evI (emC M) [.ref t] M (FX12_heldOnes t M) := by
  refine ct_of (by decide) (Nat.le_of_ble_eq_true rfl) (fun x hl hx hb hz => ?_)
  subst hl
  have hd : ∀ i, DAt (xc x).code (tbX12_heldOnes[i]?) := fun i => by rw [hb]; exact dat_of dX12_heldOnes i
  show C x w (Qn x w evI (emC M)) 3 0 [(0, .ref t)] [] M (FX12_heldOnes t M)
  unfold FX12_heldOnes
  refine r_iconst (pc' := 1) (v := 0) hx (hd 0) (by decide) rfl ?_
  refine r_istore_n (pc' := 2) (L' := [(1, .int 0), (0, .ref t)]) hx (hd 1) rfl (by decide) rfl rfl ?_
  refine r_iconst (pc' := 3) (v := 0) hx (hd 2) (by decide) rfl ?_
  refine r_istore_n (pc' := 4) (L' := [(2, .int 0), (1, .int 0), (0, .ref t)]) hx (hd 3) rfl (by decide) rfl rfl ?_
  refine r_sub [2, 1, 0] rfl ?_
  refine r_wl2 (fun v1 v2 => [(0, .ref t), (1, .int v1), (2, .int v2)]) (fun v1 v2 => []) (fun v1 v2 => M) (fun v1 v2 rec3 ih4 => ?_) fuel 0 0
  refine r_iload_n (pc' := 5) hx (hd 4) rfl 2 rfl rfl ?_
  refine r_bipush (pc' := 7) (v := 52) hx (hd 5) (by decide) rfl ?_
  refine r_icmp_ge (tgt := 29) (pc' := 10) hx (hd 6) (by decide) (fun _ => ?_) rfl (fun _ => ?_)
  · skip
    refine r_iload_n (pc' := 30) hx (hd 18) rfl 1 rfl rfl ?_
    exact r_iret hx (hd 19) rfl rfl hz
  · skip
    refine r_iload_n (pc' := 11) hx (hd 7) rfl 1 rfl rfl ?_
    refine r_aload_n (pc' := 12) hx (hd 8) rfl 0 rfl rfl ?_
    refine r_get (pc' := 15) (v := .ref (t + 2)) hx (hd 9) fl_12_13 ht rfl (by decide) rfl ?_
    have h5 := hL.1 _ _ _ ht 3 2 20 5594 rfl
    refine r_sipush (pc' := 18) (v := 130) hx (hd 10) (by decide) rfl ?_
    refine r_iload_n (pc' := 19) hx (hd 11) rfl 2 rfl rfl ?_
    refine r_iadd (pc' := 20) hx (hd 12) rfl ?_
    refine r_gd (fun h6 => ?_)
    refine r_iald (pc' := 21) (k := ix (130 + v2)) hx (hd 13) h5 h6 rfl rfl ?_
    refine r_iadd (pc' := 22) hx (hd 14) rfl ?_
    refine r_nmI (fun v7 => ?_)
    refine r_istore_n (pc' := 23) (L' := [(1, .int v7), (0, .ref t), (2, .int v2)]) hx (hd 15) rfl (by decide) rfl rfl ?_
    refine r_iinc (pc' := 26) (v := 1) hx (hd 16) 2 rfl (by decide) (by decide) (fun v8 => [(2, .int v8), (1, .int v7), (0, .ref t)]) (fun _ => rfl) rfl (fun v8 => ?_)
    refine r_goto (tgt := 4) hx (hd 17) (by decide) ?_
    refine r_sub [2, 1, 0] rfl ?_
    exact ih4 v7 v8
abbrev yX12_hold : MethodName := ({ cls := "CribbageRoomModel", name := "hold", desc := "(I)I" } : Jvm.MethodName)
def tbX12_hold : List (Nat × Instr × Nat) := [(0, .aload_n 0, 1), (1, .iconst 0, 1), (2, .putfield 188, 3), (5, .iload_n 1, 1), (6, .invokestatic 217, 3), (9, .ifCond .ne 9, 3), (12, .aload_n 0, 1), (13, .iconst (-1), 1), (14, .invokevirtual 197, 3), (17, .ireturn, 1), (18, .aload_n 0, 1), (19, .iload_n 1, 1), (20, .invokevirtual 261, 3), (23, .ifCond .eq 10, 3), (26, .aload_n 0, 1), (27, .bipush (-3), 2), (29, .invokevirtual 197, 3), (32, .ireturn, 1), (33, .aload_n 0, 1), (34, .invokevirtual 554, 3), (37, .bipush 6, 2), (39, .if_icmp .ne 10, 3), (42, .aload_n 0, 1), (43, .bipush (-5), 2), (45, .invokevirtual 197, 3), (48, .ireturn, 1), (49, .aload_n 0, 1), (50, .getfield 13, 3), (53, .sipush 130, 3), (56, .iload_n 1, 1), (57, .iadd, 1), (58, .iconst 1, 1), (59, .iastore, 1), (60, .aload_n 0, 1), (61, .aload_n 0, 1), (62, .invokevirtual 554, 3), (65, .invokevirtual 197, 3), (68, .ireturn, 1)]
theorem dX12_hold : ∀ q ∈ tbX12_hold, decode prog_14_method_98_code q.1 = .ok q.2 := by decide +kernel
set_option maxRecDepth 20000 in
theorem cX12_hold (l : Launch) (w : WX) (hL : Lay w) (t : Nat) (ht : Wat w t 12 0) (p1 : Int32) (M : Mem) : Ct l w yX12_hold prog_14_method_98_code 2 (Option.some FieldType.int) 2 45 evIM emM [.ref t, .int p1] M (FX12_hold t p1 M) := by
  refine ct_of (by decide) (Nat.le_of_ble_eq_true rfl) (fun x hl hx hb hz => ?_)
  subst hl
  have hd : ∀ i, DAt (xc x).code (tbX12_hold[i]?) := fun i => by rw [hb]; exact dat_of dX12_hold i
  show C x w (Qn x w evIM emM) 2 0 [(0, .ref t), (1, .int p1)] [] M (FX12_hold t p1 M)
  unfold FX12_hold
  refine r_aload_n (pc' := 1) hx (hd 0) rfl 0 rfl rfl ?_
  refine r_iconst (pc' := 2) (v := 0) hx (hd 1) (by decide) rfl ?_
  refine r_putI (pc' := 5) hx (hd 2) fp_12_188 ht rfl (by decide) rfl (fun M1 => ?_)
  refine r_iload_n (pc' := 6) hx (hd 3) rfl 1 rfl rfl ?_
  refine r_callS (pc' := 9) (As := [.int p1]) (rest := []) hx (hd 4) md_X12_isCard mst_X12_isCard ml_12_217 (cX12_isCard (xl x) w hL p1 M1) ⟨Nat.le_of_ble_eq_true rfl, Nat.le_of_ble_eq_true rfl⟩ rfl rfl (Nat.le_of_ble_eq_true rfl) (fun r2 => .int r2 :: []) (fun _ => M1) (fun _ => ⟨rfl, rfl⟩) rfl (fun r2 _ => ?_)
  refine r_if_ne (tgt := 18) (pc' := 12) hx (hd 5) (by decide) (fun _ => ?_) rfl (fun _ => ?_)
  · skip
    refine r_aload_n (pc' := 19) hx (hd 10) rfl 0 rfl rfl ?_
    refine r_iload_n (pc' := 20) hx (hd 11) rfl 1 rfl rfl ?_
    refine r_callV (pc' := 23) (As := [.int p1]) (rest := []) hx (hd 12) md_X12_isHeld mi_X12_isHeld ms_X12_isHeld ml_12_261 (cX12_isHeld (xl x) w hL t ht p1 M1) ht rfl (by decide) ⟨Nat.le_of_ble_eq_true rfl, Nat.le_of_ble_eq_true rfl⟩ rfl rfl (Nat.le_of_ble_eq_true rfl) (fun r3 => .int r3 :: []) (fun _ => M1) (fun _ => ⟨rfl, rfl⟩) rfl (fun r3 _ => ?_)
    refine r_if_eq (tgt := 33) (pc' := 26) hx (hd 13) (by decide) (fun _ => ?_) rfl (fun _ => ?_)
    · skip
      refine r_aload_n (pc' := 34) hx (hd 18) rfl 0 rfl rfl ?_
      refine r_callV (pc' := 37) (As := []) (rest := []) hx (hd 19) md_X12_heldOnes mi_X12_heldOnes ms_X12_heldOnes ml_12_554 (cX12_heldOnes (xl x) w hL t ht M1) ht rfl (by decide) ⟨Nat.le_of_ble_eq_true rfl, Nat.le_of_ble_eq_true rfl⟩ rfl rfl (Nat.le_of_ble_eq_true rfl) (fun r4 => .int r4 :: []) (fun _ => M1) (fun _ => ⟨rfl, rfl⟩) rfl (fun r4 _ => ?_)
      refine r_bipush (pc' := 39) (v := 6) hx (hd 20) (by decide) rfl ?_
      refine r_icmp_ne (tgt := 49) (pc' := 42) hx (hd 21) (by decide) (fun _ => ?_) rfl (fun _ => ?_)
      · skip
        refine r_aload_n (pc' := 50) hx (hd 26) rfl 0 rfl rfl ?_
        refine r_get (pc' := 53) (v := .ref (t + 2)) hx (hd 27) fl_12_13 ht rfl (by decide) rfl ?_
        have h5 := hL.1 _ _ _ ht 3 2 20 5594 rfl
        refine r_sipush (pc' := 56) (v := 130) hx (hd 28) (by decide) rfl ?_
        refine r_iload_n (pc' := 57) hx (hd 29) rfl 1 rfl rfl ?_
        refine r_iadd (pc' := 58) hx (hd 30) rfl ?_
        refine r_iconst (pc' := 59) (v := 1) hx (hd 31) (by decide) rfl ?_
        refine r_gd (fun h7 => ?_)
        refine r_iast (pc' := 60) (k := ix (130 + p1)) hx (hd 32) h5 h7 rfl rfl (fun M6 => ?_)
        refine r_aload_n (pc' := 61) hx (hd 33) rfl 0 rfl rfl ?_
        refine r_aload_n (pc' := 62) hx (hd 34) rfl 0 rfl rfl ?_
        refine r_callV (pc' := 65) (As := []) (rest := [.ref t]) hx (hd 35) md_X12_heldOnes mi_X12_heldOnes ms_X12_heldOnes ml_12_554 (cX12_heldOnes (xl x) w hL t ht M6) ht rfl (by decide) ⟨Nat.le_of_ble_eq_true rfl, Nat.le_of_ble_eq_true rfl⟩ rfl rfl (Nat.le_of_ble_eq_true rfl) (fun r8 => .int r8 :: [.ref t]) (fun _ => M6) (fun _ => ⟨rfl, rfl⟩) rfl (fun r8 _ => ?_)
        refine r_callVI (pc' := 68) (As := [.int r8]) (rest := []) hx (hd 36) md_X12_tell mi_X12_tell ms_X12_tell ml_12_197 (cX12_tell (xl x) w hL t ht r8 M6) ht rfl (by decide) ⟨Nat.le_of_ble_eq_true rfl, Nat.le_of_ble_eq_true rfl⟩ rfl rfl (Nat.le_of_ble_eq_true rfl) (fun r10 => .int r10 :: []) (fun _ => rfl) rfl (fun r10 M9 => ?_)
        exact r_iret hx (hd 37) rfl rfl hz
      · skip
        refine r_aload_n (pc' := 43) hx (hd 22) rfl 0 rfl rfl ?_
        refine r_bipush (pc' := 45) (v := (-5)) hx (hd 23) (by decide) rfl ?_
        refine r_callVI (pc' := 48) (As := [.int (-5)]) (rest := []) hx (hd 24) md_X12_tell mi_X12_tell ms_X12_tell ml_12_197 (cX12_tell (xl x) w hL t ht (-5) M1) ht rfl (by decide) ⟨Nat.le_of_ble_eq_true rfl, Nat.le_of_ble_eq_true rfl⟩ rfl rfl (Nat.le_of_ble_eq_true rfl) (fun r12 => .int r12 :: []) (fun _ => rfl) rfl (fun r12 M11 => ?_)
        exact r_iret hx (hd 25) rfl rfl hz
    · skip
      refine r_aload_n (pc' := 27) hx (hd 14) rfl 0 rfl rfl ?_
      refine r_bipush (pc' := 29) (v := (-3)) hx (hd 15) (by decide) rfl ?_
      refine r_callVI (pc' := 32) (As := [.int (-3)]) (rest := []) hx (hd 16) md_X12_tell mi_X12_tell ms_X12_tell ml_12_197 (cX12_tell (xl x) w hL t ht (-3) M1) ht rfl (by decide) ⟨Nat.le_of_ble_eq_true rfl, Nat.le_of_ble_eq_true rfl⟩ rfl rfl (Nat.le_of_ble_eq_true rfl) (fun r14 => .int r14 :: []) (fun _ => rfl) rfl (fun r14 M13 => ?_)
      exact r_iret hx (hd 17) rfl rfl hz
  · skip
    refine r_aload_n (pc' := 13) hx (hd 6) rfl 0 rfl rfl ?_
    refine r_iconst (pc' := 14) (v := (-1)) hx (hd 7) (by decide) rfl ?_
    refine r_callVI (pc' := 17) (As := [.int (-1)]) (rest := []) hx (hd 8) md_X12_tell mi_X12_tell ms_X12_tell ml_12_197 (cX12_tell (xl x) w hL t ht (-1) M1) ht rfl (by decide) ⟨Nat.le_of_ble_eq_true rfl, Nat.le_of_ble_eq_true rfl⟩ rfl rfl (Nat.le_of_ble_eq_true rfl) (fun r16 => .int r16 :: []) (fun _ => rfl) rfl (fun r16 M15 => ?_)
    exact r_iret hx (hd 9) rfl rfl hz
abbrev yX12_drop : MethodName := ({ cls := "CribbageRoomModel", name := "drop", desc := "()I" } : Jvm.MethodName)
def tbX12_drop : List (Nat × Instr × Nat) := [(0, .aload_n 0, 1), (1, .iconst 0, 1), (2, .putfield 188, 3), (5, .aload_n 0, 1), (6, .invokevirtual 554, 3), (9, .istore_n 1, 1), (10, .iconst 0, 1), (11, .istore_n 2, 1), (12, .iload_n 2, 1), (13, .bipush 52, 2), (15, .if_icmp .ge 20, 3), (18, .aload_n 0, 1), (19, .getfield 13, 3), (22, .sipush 130, 3), (25, .iload_n 2, 1), (26, .iadd, 1), (27, .iconst 0, 1), (28, .iastore, 1), (29, .iinc 2 1, 3), (32, .goto (-20), 3), (35, .iload_n 1, 1), (36, .ireturn, 1)]
theorem dX12_drop : ∀ q ∈ tbX12_drop, decode prog_14_method_99_code q.1 = .ok q.2 := by decide +kernel
set_option maxRecDepth 20000 in
theorem cX12_drop (l : Launch) (w : WX) (hL : Lay w) (t : Nat) (ht : Wat w t 12 0) (M : Mem) : Ct l w yX12_drop prog_14_method_99_code 3 (Option.some FieldType.int) 1 22 evIM emM [.ref t] M (FX12_drop t M) := by
  refine ct_of (by decide) (Nat.le_of_ble_eq_true rfl) (fun x hl hx hb hz => ?_)
  subst hl
  have hd : ∀ i, DAt (xc x).code (tbX12_drop[i]?) := fun i => by rw [hb]; exact dat_of dX12_drop i
  show C x w (Qn x w evIM emM) 3 0 [(0, .ref t)] [] M (FX12_drop t M)
  unfold FX12_drop
  refine r_aload_n (pc' := 1) hx (hd 0) rfl 0 rfl rfl ?_
  refine r_iconst (pc' := 2) (v := 0) hx (hd 1) (by decide) rfl ?_
  refine r_putI (pc' := 5) hx (hd 2) fp_12_188 ht rfl (by decide) rfl (fun M1 => ?_)
  refine r_aload_n (pc' := 6) hx (hd 3) rfl 0 rfl rfl ?_
  refine r_callV (pc' := 9) (As := []) (rest := []) hx (hd 4) md_X12_heldOnes mi_X12_heldOnes ms_X12_heldOnes ml_12_554 (cX12_heldOnes (xl x) w hL t ht M1) ht rfl (by decide) ⟨Nat.le_of_ble_eq_true rfl, Nat.le_of_ble_eq_true rfl⟩ rfl rfl (Nat.le_of_ble_eq_true rfl) (fun r2 => .int r2 :: []) (fun _ => M1) (fun _ => ⟨rfl, rfl⟩) rfl (fun r2 _ => ?_)
  refine r_istore_n (pc' := 10) (L' := [(1, .int r2), (0, .ref t)]) hx (hd 5) rfl (by decide) rfl rfl ?_
  refine r_iconst (pc' := 11) (v := 0) hx (hd 6) (by decide) rfl ?_
  refine r_istore_n (pc' := 12) (L' := [(2, .int 0), (1, .int r2), (0, .ref t)]) hx (hd 7) rfl (by decide) rfl rfl ?_
  refine r_sub [2, 1, 0] rfl ?_
  refine r_wl2 (fun v3 M4 => [(0, .ref t), (1, .int r2), (2, .int v3)]) (fun v3 M4 => []) (fun v3 M4 => M4) (fun v3 M4 rec5 ih6 => ?_) fuel 0 M1
  refine r_iload_n (pc' := 13) hx (hd 8) rfl 2 rfl rfl ?_
  refine r_bipush (pc' := 15) (v := 52) hx (hd 9) (by decide) rfl ?_
  refine r_icmp_ge (tgt := 35) (pc' := 18) hx (hd 10) (by decide) (fun _ => ?_) rfl (fun _ => ?_)
  · skip
    refine r_iload_n (pc' := 36) hx (hd 20) rfl 1 rfl rfl ?_
    exact r_iret hx (hd 21) rfl rfl hz
  · skip
    refine r_aload_n (pc' := 19) hx (hd 11) rfl 0 rfl rfl ?_
    refine r_get (pc' := 22) (v := .ref (t + 2)) hx (hd 12) fl_12_13 ht rfl (by decide) rfl ?_
    have h7 := hL.1 _ _ _ ht 3 2 20 5594 rfl
    refine r_sipush (pc' := 25) (v := 130) hx (hd 13) (by decide) rfl ?_
    refine r_iload_n (pc' := 26) hx (hd 14) rfl 2 rfl rfl ?_
    refine r_iadd (pc' := 27) hx (hd 15) rfl ?_
    refine r_iconst (pc' := 28) (v := 0) hx (hd 16) (by decide) rfl ?_
    refine r_gd (fun h9 => ?_)
    refine r_iast (pc' := 29) (k := ix (130 + v3)) hx (hd 17) h7 h9 rfl rfl (fun M8 => ?_)
    refine r_iinc (pc' := 32) (v := 1) hx (hd 18) 2 rfl (by decide) (by decide) (fun v10 => [(2, .int v10), (0, .ref t), (1, .int r2)]) (fun _ => rfl) rfl (fun v10 => ?_)
    refine r_goto (tgt := 12) hx (hd 19) (by decide) ?_
    refine r_sub [1, 2, 0] rfl ?_
    exact ih6 v10 M8
abbrev yX12_canCount : MethodName := ({ cls := "CribbageRoomModel", name := "canCount", desc := "(I)Z" } : Jvm.MethodName)
def tbX12_canCount : List (Nat × Instr × Nat) := [(0, .aload_n 0, 1), (1, .invokevirtual 554, 3), (4, .iconst 4, 1), (5, .if_icmp .ne 22, 3), (8, .iload_n 1, 1), (9, .invokestatic 217, 3), (12, .ifCond .eq 15, 3), (15, .aload_n 0, 1), (16, .iload_n 1, 1), (17, .invokevirtual 261, 3), (20, .ifCond .ne 7, 3), (23, .iconst 1, 1), (24, .goto 4, 3), (27, .iconst 0, 1), (28, .ireturn, 1)]
theorem dX12_canCount : ∀ q ∈ tbX12_canCount, decode prog_14_method_103_code q.1 = .ok q.2 := by decide +kernel
set_option maxRecDepth 20000 in
theorem cX12_canCount (l : Launch) (w : WX) (hL : Lay w) (t : Nat) (ht : Wat w t 12 0) (p1 : Int32) (M : Mem) : Ct l w yX12_canCount prog_14_method_103_code 2 (Option.some FieldType.boolean) 2 45 evI (emC M) [.ref t, .int p1] M (FX12_canCount t p1 M) := by
  refine ct_of (by decide) (Nat.le_of_ble_eq_true rfl) (fun x hl hx hb hz => ?_)
  subst hl
  have hd : ∀ i, DAt (xc x).code (tbX12_canCount[i]?) := fun i => by rw [hb]; exact dat_of dX12_canCount i
  show C x w (Qn x w evI (emC M)) 2 0 [(0, .ref t), (1, .int p1)] [] M (FX12_canCount t p1 M)
  unfold FX12_canCount
  refine r_aload_n (pc' := 1) hx (hd 0) rfl 0 rfl rfl ?_
  refine r_callV (pc' := 4) (As := []) (rest := []) hx (hd 1) md_X12_heldOnes mi_X12_heldOnes ms_X12_heldOnes ml_12_554 (cX12_heldOnes (xl x) w hL t ht M) ht rfl (by decide) ⟨Nat.le_of_ble_eq_true rfl, Nat.le_of_ble_eq_true rfl⟩ rfl rfl (Nat.le_of_ble_eq_true rfl) (fun r1 => .int r1 :: []) (fun _ => M) (fun _ => ⟨rfl, rfl⟩) rfl (fun r1 _ => ?_)
  refine r_iconst (pc' := 5) (v := 4) hx (hd 2) (by decide) rfl ?_
  refine r_jn1 28 (fun v2 => []) (fun v2 => [.int v2]) (fun v2 => M) (fun v2 => ?_) (fun j3 hj4 => ?_)
  · skip
    refine r_gd (fun h5 => ?_)
    exact r_zret hx (hd 14) h5 rfl rfl hz
  refine r_jn0 27 ([]) ([]) (M) (?_) (fun j6 hj7 => ?_)
  · skip
    refine r_iconst (pc' := 28) (v := 0) hx (hd 13) (by decide) rfl ?_
    exact hj4 0
  refine r_icmp_ne (tgt := 27) (pc' := 8) hx (hd 3) (by decide) (fun _ => ?_) rfl (fun _ => ?_)
  · skip
    refine r_sub [] rfl ?_
    exact hj7
  · skip
    refine r_iload_n (pc' := 9) hx (hd 4) rfl 1 rfl rfl ?_
    refine r_callS (pc' := 12) (As := [.int p1]) (rest := []) hx (hd 5) md_X12_isCard mst_X12_isCard ml_12_217 (cX12_isCard (xl x) w hL p1 M) ⟨Nat.le_of_ble_eq_true rfl, Nat.le_of_ble_eq_true rfl⟩ rfl rfl (Nat.le_of_ble_eq_true rfl) (fun r8 => .int r8 :: []) (fun _ => M) (fun _ => ⟨rfl, rfl⟩) rfl (fun r8 _ => ?_)
    refine r_if_eq (tgt := 27) (pc' := 15) hx (hd 6) (by decide) (fun _ => ?_) rfl (fun _ => ?_)
    · skip
      refine r_sub [] rfl ?_
      exact hj7
    · skip
      refine r_aload_n (pc' := 16) hx (hd 7) rfl 0 rfl rfl ?_
      refine r_iload_n (pc' := 17) hx (hd 8) rfl 1 rfl rfl ?_
      refine r_callV (pc' := 20) (As := [.int p1]) (rest := []) hx (hd 9) md_X12_isHeld mi_X12_isHeld ms_X12_isHeld ml_12_261 (cX12_isHeld (xl x) w hL t ht p1 M) ht rfl (by decide) ⟨Nat.le_of_ble_eq_true rfl, Nat.le_of_ble_eq_true rfl⟩ rfl rfl (Nat.le_of_ble_eq_true rfl) (fun r9 => .int r9 :: []) (fun _ => M) (fun _ => ⟨rfl, rfl⟩) rfl (fun r9 _ => ?_)
      refine r_if_ne (tgt := 27) (pc' := 23) hx (hd 10) (by decide) (fun _ => ?_) rfl (fun _ => ?_)
      · skip
        refine r_sub [] rfl ?_
        exact hj7
      · skip
        refine r_iconst (pc' := 24) (v := 1) hx (hd 11) (by decide) rfl ?_
        refine r_goto (tgt := 28) hx (hd 12) (by decide) ?_
        refine r_sub [] rfl ?_
        exact hj4 1
abbrev yX12_laySix : MethodName := ({ cls := "CribbageRoomModel", name := "laySix", desc := "()I" } : Jvm.MethodName)
def tbX12_laySix : List (Nat × Instr × Nat) := [(0, .iconst 0, 1), (1, .istore_n 1, 1), (2, .iconst 0, 1), (3, .istore_n 2, 1), (4, .iload_n 2, 1), (5, .bipush 52, 2), (7, .if_icmp .ge 27, 3), (10, .aload_n 0, 1), (11, .iload_n 2, 1), (12, .invokevirtual 261, 3), (15, .ifCond .eq 13, 3), (18, .aload_n 0, 1), (19, .getfield 146, 3), (22, .iload_n 1, 1), (23, .iload_n 2, 1), (24, .iastore, 1), (25, .iinc 1 1, 3), (28, .iinc 2 1, 3), (31, .goto (-27), 3), (34, .iload_n 1, 1), (35, .ireturn, 1)]
theorem dX12_laySix : ∀ q ∈ tbX12_laySix, decode prog_14_method_100_code q.1 = .ok q.2 := by decide +kernel
set_option maxRecDepth 20000 in
theorem cX12_laySix (l : Launch) (w : WX) (hL : Lay w) (t : Nat) (ht : Wat w t 12 0) (M : Mem) : Ct l w yX12_laySix prog_14_method_100_code 3 (Option.some FieldType.int) 1 21 evIM emM [.ref t] M (FX12_laySix t M) := by
  refine ct_of (by decide) (Nat.le_of_ble_eq_true rfl) (fun x hl hx hb hz => ?_)
  subst hl
  have hd : ∀ i, DAt (xc x).code (tbX12_laySix[i]?) := fun i => by rw [hb]; exact dat_of dX12_laySix i
  show C x w (Qn x w evIM emM) 3 0 [(0, .ref t)] [] M (FX12_laySix t M)
  unfold FX12_laySix
  refine r_iconst (pc' := 1) (v := 0) hx (hd 0) (by decide) rfl ?_
  refine r_istore_n (pc' := 2) (L' := [(1, .int 0), (0, .ref t)]) hx (hd 1) rfl (by decide) rfl rfl ?_
  refine r_iconst (pc' := 3) (v := 0) hx (hd 2) (by decide) rfl ?_
  refine r_istore_n (pc' := 4) (L' := [(2, .int 0), (1, .int 0), (0, .ref t)]) hx (hd 3) rfl (by decide) rfl rfl ?_
  refine r_sub [2, 1, 0] rfl ?_
  refine r_wl3 (fun v1 v2 M3 => [(0, .ref t), (1, .int v1), (2, .int v2)]) (fun v1 v2 M3 => []) (fun v1 v2 M3 => M3) (fun v1 v2 M3 rec4 ih5 => ?_) fuel 0 0 M
  refine r_iload_n (pc' := 5) hx (hd 4) rfl 2 rfl rfl ?_
  refine r_bipush (pc' := 7) (v := 52) hx (hd 5) (by decide) rfl ?_
  refine r_icmp_ge (tgt := 34) (pc' := 10) hx (hd 6) (by decide) (fun _ => ?_) rfl (fun _ => ?_)
  · skip
    refine r_iload_n (pc' := 35) hx (hd 19) rfl 1 rfl rfl ?_
    exact r_iret hx (hd 20) rfl rfl hz
  · skip
    refine r_aload_n (pc' := 11) hx (hd 7) rfl 0 rfl rfl ?_
    refine r_iload_n (pc' := 12) hx (hd 8) rfl 2 rfl rfl ?_
    refine r_callV (pc' := 15) (As := [.int v2]) (rest := []) hx (hd 9) md_X12_isHeld mi_X12_isHeld ms_X12_isHeld ml_12_261 (cX12_isHeld (xl x) w hL t ht v2 M3) ht rfl (by decide) ⟨Nat.le_of_ble_eq_true rfl, Nat.le_of_ble_eq_true rfl⟩ rfl rfl (Nat.le_of_ble_eq_true rfl) (fun r6 => .int r6 :: []) (fun _ => M3) (fun _ => ⟨rfl, rfl⟩) rfl (fun r6 _ => ?_)
    refine r_jn2 28 (fun v7 M8 => [(0, .ref t), (1, .int v7), (2, .int v2)]) (fun v7 M8 => []) (fun v7 M8 => M8) (fun v7 M8 => ?_) (fun j9 hj10 => ?_)
    · skip
      refine r_iinc (pc' := 31) (v := 1) hx (hd 17) 2 rfl (by decide) (by decide) (fun v11 => [(2, .int v11), (0, .ref t), (1, .int v7)]) (fun _ => rfl) rfl (fun v11 => ?_)
      refine r_goto (tgt := 4) hx (hd 18) (by decide) ?_
      refine r_sub [1, 2, 0] rfl ?_
      exact ih5 v7 v11 M8
    refine r_if_eq (tgt := 28) (pc' := 18) hx (hd 10) (by decide) (fun _ => ?_) rfl (fun _ => ?_)
    · skip
      exact hj10 v1 M3
    · skip
      refine r_aload_n (pc' := 19) hx (hd 11) rfl 0 rfl rfl ?_
      refine r_get (pc' := 22) (v := .ref (t + 31)) hx (hd 12) fl_12_146 ht rfl (by decide) rfl ?_
      have h12 := hL.1 _ _ _ ht 52 31 20 6 rfl
      refine r_iload_n (pc' := 23) hx (hd 13) rfl 1 rfl rfl ?_
      refine r_iload_n (pc' := 24) hx (hd 14) rfl 2 rfl rfl ?_
      refine r_gd (fun h14 => ?_)
      refine r_iast (pc' := 25) (k := ix v1) hx (hd 15) h12 h14 rfl rfl (fun M13 => ?_)
      refine r_iinc (pc' := 28) (v := 1) hx (hd 16) 1 rfl (by decide) (by decide) (fun v15 => [(1, .int v15), (0, .ref t), (2, .int v2)]) (fun _ => rfl) rfl (fun v15 => ?_)
      refine r_sub [1, 0, 2] rfl ?_
      exact hj10 v15 M13
abbrev yX12_takeHeld : MethodName := ({ cls := "CribbageRoomModel", name := "takeHeld", desc := "()V" } : Jvm.MethodName)
def tbX12_takeHeld : List (Nat × Instr × Nat) := [(0, .aload_n 0, 1), (1, .invokevirtual 557, 3), (4, .pop, 1), (5, .iconst 0, 1), (6, .istore_n 1, 1), (7, .iload_n 1, 1), (8, .iconst 4, 1), (9, .if_icmp .ge 21, 3), (12, .aload_n 0, 1), (13, .getfield 134, 3), (16, .iload_n 1, 1), (17, .aload_n 0, 1), (18, .getfield 146, 3), (21, .iload_n 1, 1), (22, .iaload, 1), (23, .iastore, 1), (24, .iinc 1 1, 3), (27, .goto (-20), 3), (30, .return_, 1)]
theorem dX12_takeHeld : ∀ q ∈ tbX12_takeHeld, decode prog_14_method_102_code q.1 = .ok q.2 := by decide +kernel
set_option maxRecDepth 20000 in
theorem cX12_takeHeld (l : Launch) (w : WX) (hL : Lay w) (t : Nat) (ht : Wat w t 12 0) (M : Mem) : Ct l w yX12_takeHeld prog_14_method_102_code 2 (Option.none : Option FieldType) 2 43 evU emU [.ref t] M (FX12_takeHeld t M) := by
  refine ct_of (by decide) (Nat.le_of_ble_eq_true rfl) (fun x hl hx hb hz => ?_)
  subst hl
  have hd : ∀ i, DAt (xc x).code (tbX12_takeHeld[i]?) := fun i => by rw [hb]; exact dat_of dX12_takeHeld i
  show C x w (Qn x w evU emU) 2 0 [(0, .ref t)] [] M (FX12_takeHeld t M)
  unfold FX12_takeHeld
  refine r_aload_n (pc' := 1) hx (hd 0) rfl 0 rfl rfl ?_
  refine r_callVI (pc' := 4) (As := []) (rest := []) hx (hd 1) md_X12_laySix mi_X12_laySix ms_X12_laySix ml_12_557 (cX12_laySix (xl x) w hL t ht M) ht rfl (by decide) ⟨Nat.le_of_ble_eq_true rfl, Nat.le_of_ble_eq_true rfl⟩ rfl rfl (Nat.le_of_ble_eq_true rfl) (fun r2 => .int r2 :: []) (fun _ => rfl) rfl (fun r2 M1 => ?_)
  refine r_pop (pc' := 5) hx (hd 2) rfl rfl ?_
  refine r_iconst (pc' := 6) (v := 0) hx (hd 3) (by decide) rfl ?_
  refine r_istore_n (pc' := 7) (L' := [(1, .int 0), (0, .ref t)]) hx (hd 4) rfl (by decide) rfl rfl ?_
  refine r_sub [1, 0] rfl ?_
  refine r_wl2 (fun v3 M4 => [(0, .ref t), (1, .int v3)]) (fun v3 M4 => []) (fun v3 M4 => M4) (fun v3 M4 rec5 ih6 => ?_) fuel 0 M1
  refine r_iload_n (pc' := 8) hx (hd 5) rfl 1 rfl rfl ?_
  refine r_iconst (pc' := 9) (v := 4) hx (hd 6) (by decide) rfl ?_
  refine r_icmp_ge (tgt := 30) (pc' := 12) hx (hd 7) (by decide) (fun _ => ?_) rfl (fun _ => ?_)
  · skip
    exact r_vret hx (hd 18) rfl rfl hz
  · skip
    refine r_aload_n (pc' := 13) hx (hd 8) rfl 0 rfl rfl ?_
    refine r_get (pc' := 16) (v := .ref (t + 27)) hx (hd 9) fl_12_134 ht rfl (by decide) rfl ?_
    have h7 := hL.1 _ _ _ ht 47 27 20 5 rfl
    refine r_iload_n (pc' := 17) hx (hd 10) rfl 1 rfl rfl ?_
    refine r_aload_n (pc' := 18) hx (hd 11) rfl 0 rfl rfl ?_
    refine r_get (pc' := 21) (v := .ref (t + 31)) hx (hd 12) fl_12_146 ht rfl (by decide) rfl ?_
    have h8 := hL.1 _ _ _ ht 52 31 20 6 rfl
    refine r_iload_n (pc' := 22) hx (hd 13) rfl 1 rfl rfl ?_
    refine r_gd (fun h9 => ?_)
    refine r_iald (pc' := 23) (k := ix v3) hx (hd 14) h8 h9 rfl rfl ?_
    refine r_gd (fun h11 => ?_)
    refine r_iast (pc' := 24) (k := ix v3) hx (hd 15) h7 h11 rfl rfl (fun M10 => ?_)
    refine r_iinc (pc' := 27) (v := 1) hx (hd 16) 1 rfl (by decide) (by decide) (fun v12 => [(1, .int v12), (0, .ref t)]) (fun _ => rfl) rfl (fun v12 => ?_)
    refine r_goto (tgt := 7) hx (hd 17) (by decide) ?_
    refine r_sub [1, 0] rfl ?_
    exact ih6 v12 M10
abbrev yX12_counted : MethodName := ({ cls := "CribbageRoomModel", name := "counted", desc := "(III)I" } : Jvm.MethodName)
def tbX12_counted : List (Nat × Instr × Nat) := [(0, .aload_n 0, 1), (1, .iconst 0, 1), (2, .putfield 188, 3), (5, .aload_n 0, 1), (6, .iload_n 1, 1), (7, .invokevirtual 560, 3), (10, .ifCond .eq 25, 3), (13, .iload_n 2, 1), (14, .i2l, 1), (15, .lconst 0, 1), (16, .lconst 1, 1), (17, .invokestatic 208, 3), (20, .ifCond .eq 15, 3), (23, .iload_n 3, 1), (24, .i2l, 1), (25, .lconst 0, 1), (26, .ldc2_w 248, 3), (29, .invokestatic 208, 3), (32, .ifCond .ne 5, 3), (35, .iconst (-1), 1), (36, .ireturn, 1), (37, .aload_n 0, 1), (38, .invokevirtual 563, 3), (41, .aload_n 0, 1), (42, .getfield 134, 3), (45, .iconst 4, 1), (46, .iload_n 1, 1), (47, .iastore, 1), (48, .aload_n 0, 1), (49, .iload_n 2, 1), (50, .invokevirtual 481, 3), (53, .aload_n 0, 1), (54, .iload_n 2, 1), (55, .invokevirtual 484, 3), (58, .pop, 1), (59, .aload_n 0, 1), (60, .getfield 137, 3), (63, .iload_n 3, 1), (64, .iaload, 1), (65, .ireturn, 1)]
theorem dX12_counted : ∀ q ∈ tbX12_counted, decode prog_14_method_104_code q.1 = .ok q.2 := by decide +kernel
set_option maxRecDepth 20000 in
theorem cX12_counted (l : Launch) (w : WX) (hL : Lay w) (t : Nat) (ht : Wat w t 12 0) (p1 : Int32) (p2 : Int32) (p3 : Int32) (M : Mem) : Ct l w yX12_counted prog_14_method_104_code 4 (Option.some FieldType.int) 6 151 evIM emM [.ref t, .int p1, .int p2, .int p3] M (FX12_counted t p1 p2 p3 M) := by
  refine ct_of (by decide) (Nat.le_of_ble_eq_true rfl) (fun x hl hx hb hz => ?_)
  subst hl
  have hd : ∀ i, DAt (xc x).code (tbX12_counted[i]?) := fun i => by rw [hb]; exact dat_of dX12_counted i
  show C x w (Qn x w evIM emM) 4 0 [(0, .ref t), (1, .int p1), (2, .int p2), (3, .int p3)] [] M (FX12_counted t p1 p2 p3 M)
  unfold FX12_counted
  refine r_aload_n (pc' := 1) hx (hd 0) rfl 0 rfl rfl ?_
  refine r_iconst (pc' := 2) (v := 0) hx (hd 1) (by decide) rfl ?_
  refine r_putI (pc' := 5) hx (hd 2) fp_12_188 ht rfl (by decide) rfl (fun M1 => ?_)
  refine r_aload_n (pc' := 6) hx (hd 3) rfl 0 rfl rfl ?_
  refine r_iload_n (pc' := 7) hx (hd 4) rfl 1 rfl rfl ?_
  refine r_callV (pc' := 10) (As := [.int p1]) (rest := []) hx (hd 5) md_X12_canCount mi_X12_canCount ms_X12_canCount ml_12_560 (cX12_canCount (xl x) w hL t ht p1 M1) ht rfl (by decide) ⟨Nat.le_of_ble_eq_true rfl, Nat.le_of_ble_eq_true rfl⟩ rfl rfl (Nat.le_of_ble_eq_true rfl) (fun r2 => .int r2 :: []) (fun _ => M1) (fun _ => ⟨rfl, rfl⟩) rfl (fun r2 _ => ?_)
  refine r_jn0 35 ([]) ([]) (M1) (?_) (fun j3 hj4 => ?_)
  · skip
    refine r_iconst (pc' := 36) (v := (-1)) hx (hd 19) (by decide) rfl ?_
    exact r_iret hx (hd 20) rfl rfl hz
  refine r_if_eq (tgt := 35) (pc' := 13) hx (hd 6) (by decide) (fun _ => ?_) rfl (fun _ => ?_)
  · skip
    refine r_sub [] rfl ?_
    exact hj4
  · skip
    refine r_iload_n (pc' := 14) hx (hd 7) rfl 2 rfl rfl ?_
    refine r_i2l (pc' := 15) hx (hd 8) rfl ?_
    refine r_lconst (pc' := 16) (v := 0) hx (hd 9) (by decide) rfl ?_
    refine r_lconst (pc' := 17) (v := 1) hx (hd 10) (by decide) rfl ?_
    refine r_callS (pc' := 20) (As := [.long p2.toInt64, .long 0, .long 1]) (rest := []) hx (hd 11) md_X12_in mst_X12_in ml_12_208 (cX12_in (xl x) w hL (p2.toInt64) 0 1 M1) ⟨Nat.le_of_ble_eq_true rfl, Nat.le_of_ble_eq_true rfl⟩ rfl rfl (Nat.le_of_ble_eq_true rfl) (fun r5 => .int r5 :: []) (fun _ => M1) (fun _ => ⟨rfl, rfl⟩) rfl (fun r5 _ => ?_)
    refine r_if_eq (tgt := 35) (pc' := 23) hx (hd 12) (by decide) (fun _ => ?_) rfl (fun _ => ?_)
    · skip
      refine r_sub [] rfl ?_
      exact hj4
    · skip
      refine r_iload_n (pc' := 24) hx (hd 13) rfl 3 rfl rfl ?_
      refine r_i2l (pc' := 25) hx (hd 14) rfl ?_
      refine r_lconst (pc' := 26) (v := 0) hx (hd 15) (by decide) rfl ?_
      refine r_ldc2 (pc' := 29) hx (hd 16) kc_12_248 rfl ?_
      refine r_callS (pc' := 32) (As := [.long p3.toInt64, .long 0, .long 5]) (rest := []) hx (hd 17) md_X12_in mst_X12_in ml_12_208 (cX12_in (xl x) w hL (p3.toInt64) 0 5 M1) ⟨Nat.le_of_ble_eq_true rfl, Nat.le_of_ble_eq_true rfl⟩ rfl rfl (Nat.le_of_ble_eq_true rfl) (fun r6 => .int r6 :: []) (fun _ => M1) (fun _ => ⟨rfl, rfl⟩) rfl (fun r6 _ => ?_)
      refine r_if_ne (tgt := 37) (pc' := 35) hx (hd 18) (by decide) (fun _ => ?_) rfl (fun _ => ?_)
      · skip
        refine r_aload_n (pc' := 38) hx (hd 21) rfl 0 rfl rfl ?_
        refine r_callVU (pc' := 41) (As := []) (rest := []) hx (hd 22) md_X12_takeHeld mi_X12_takeHeld ms_X12_takeHeld ml_12_563 (cX12_takeHeld (xl x) w hL t ht M1) ht rfl (by decide) ⟨Nat.le_of_ble_eq_true rfl, Nat.le_of_ble_eq_true rfl⟩ rfl rfl (Nat.le_of_ble_eq_true rfl) rfl (fun M7 => ?_)
        refine r_aload_n (pc' := 42) hx (hd 23) rfl 0 rfl rfl ?_
        refine r_get (pc' := 45) (v := .ref (t + 27)) hx (hd 24) fl_12_134 ht rfl (by decide) rfl ?_
        have h8 := hL.1 _ _ _ ht 47 27 20 5 rfl
        refine r_iconst (pc' := 46) (v := 4) hx (hd 25) (by decide) rfl ?_
        refine r_iload_n (pc' := 47) hx (hd 26) rfl 1 rfl rfl ?_
        refine r_iast (pc' := 48) (k := 4) hx (hd 27) h8 (by decide) (by decide) rfl (fun M9 => ?_)
        refine r_aload_n (pc' := 49) hx (hd 28) rfl 0 rfl rfl ?_
        refine r_iload_n (pc' := 50) hx (hd 29) rfl 2 rfl rfl ?_
        refine r_callVU (pc' := 53) (As := [.int p2]) (rest := []) hx (hd 30) md_X12_layCounts mi_X12_layCounts ms_X12_layCounts ml_12_481 (cX12_layCounts (xl x) w hL t ht p2 M9) ht rfl (by decide) ⟨Nat.le_of_ble_eq_true rfl, Nat.le_of_ble_eq_true rfl⟩ rfl rfl (Nat.le_of_ble_eq_true rfl) rfl (fun M10 => ?_)
        refine r_aload_n (pc' := 54) hx (hd 31) rfl 0 rfl rfl ?_
        refine r_iload_n (pc' := 55) hx (hd 32) rfl 2 rfl rfl ?_
        refine r_callVI (pc' := 58) (As := [.int p2]) (rest := []) hx (hd 33) md_X12_countFive mi_X12_countFive ms_X12_countFive ml_12_484 (cX12_countFive (xl x) w hL t ht p2 M10) ht rfl (by decide) ⟨Nat.le_of_ble_eq_true rfl, Nat.le_of_ble_eq_true rfl⟩ rfl rfl (Nat.le_of_ble_eq_true rfl) (fun r12 => .int r12 :: []) (fun _ => rfl) rfl (fun r12 M11 => ?_)
        refine r_pop (pc' := 59) hx (hd 34) rfl rfl ?_
        refine r_aload_n (pc' := 60) hx (hd 35) rfl 0 rfl rfl ?_
        refine r_get (pc' := 63) (v := .ref (t + 28)) hx (hd 36) fl_12_137 ht rfl (by decide) rfl ?_
        have h13 := hL.1 _ _ _ ht 48 28 20 6 rfl
        refine r_iload_n (pc' := 64) hx (hd 37) rfl 3 rfl rfl ?_
        refine r_gd (fun h14 => ?_)
        refine r_iald (pc' := 65) (k := ix p3) hx (hd 38) h13 h14 rfl rfl ?_
        exact r_iret hx (hd 39) rfl rfl hz
      · skip
        refine r_sub [] rfl ?_
        exact hj4
abbrev yX12_takeFour : MethodName := ({ cls := "CribbageRoomModel", name := "takeFour", desc := "(II)V" } : Jvm.MethodName)
def tbX12_takeFour : List (Nat × Instr × Nat) := [(0, .iconst 0, 1), (1, .istore_n 3, 1), (2, .iconst 0, 1), (3, .istore 4, 2), (5, .iload 4, 2), (7, .bipush 6, 2), (9, .if_icmp .ge 37, 3), (12, .iload 4, 2), (14, .iload_n 1, 1), (15, .if_icmp .eq 25, 3), (18, .iload 4, 2), (20, .iload_n 2, 1), (21, .if_icmp .eq 19, 3), (24, .aload_n 0, 1), (25, .getfield 134, 3), (28, .iload_n 3, 1), (29, .aload_n 0, 1), (30, .getfield 146, 3), (33, .iload 4, 2), (35, .iaload, 1), (36, .iastore, 1), (37, .iinc 3 1, 3), (40, .iinc 4 1, 3), (43, .goto (-38), 3), (46, .return_, 1)]
theorem dX12_takeFour : ∀ q ∈ tbX12_takeFour, decode prog_14_method_101_code q.1 = .ok q.2 := by decide +kernel
set_option maxRecDepth 20000 in
theorem cX12_takeFour (l : Launch) (w : WX) (hL : Lay w) (t : Nat) (ht : Wat w t 12 0) (p1 : Int32) (p2 : Int32) (M : Mem) : Ct l w yX12_takeFour prog_14_method_101_code 5 (Option.none : Option FieldType) 0 0 evU emU [.ref t, .int p1, .int p2] M (FX12_takeFour t p1 p2 M) := by
  refine ct_of (by decide) (Nat.le_of_ble_eq_true rfl) (fun x hl hx hb hz => ?_)
  subst hl
  have hd : ∀ i, DAt (xc x).code (tbX12_takeFour[i]?) := fun i => by rw [hb]; exact dat_of dX12_takeFour i
  show C x w (Qn x w evU emU) 5 0 [(0, .ref t), (1, .int p1), (2, .int p2)] [] M (FX12_takeFour t p1 p2 M)
  unfold FX12_takeFour
  refine r_iconst (pc' := 1) (v := 0) hx (hd 0) (by decide) rfl ?_
  refine r_istore_n (pc' := 2) (L' := [(3, .int 0), (0, .ref t), (1, .int p1), (2, .int p2)]) hx (hd 1) rfl (by decide) rfl rfl ?_
  refine r_iconst (pc' := 3) (v := 0) hx (hd 2) (by decide) rfl ?_
  refine r_istore (pc' := 5) (L' := [(4, .int 0), (3, .int 0), (0, .ref t), (1, .int p1), (2, .int p2)]) hx (hd 3) (by decide) rfl rfl ?_
  refine r_sub [2, 3, 4, 1, 0] rfl ?_
  refine r_wl3 (fun v1 v2 M3 => [(0, .ref t), (1, .int p1), (2, .int p2), (3, .int v1), (4, .int v2)]) (fun v1 v2 M3 => []) (fun v1 v2 M3 => M3) (fun v1 v2 M3 rec4 ih5 => ?_) fuel 0 0 M
  refine r_iload (pc' := 7) hx (hd 4) 4 rfl rfl ?_
  refine r_bipush (pc' := 9) (v := 6) hx (hd 5) (by decide) rfl ?_
  refine r_icmp_ge (tgt := 46) (pc' := 12) hx (hd 6) (by decide) (fun _ => ?_) rfl (fun _ => ?_)
  · skip
    exact r_vret hx (hd 24) rfl rfl hz
  · skip
    refine r_iload (pc' := 14) hx (hd 7) 4 rfl rfl ?_
    refine r_iload_n (pc' := 15) hx (hd 8) rfl 1 rfl rfl ?_
    refine r_jn2 40 (fun v6 M7 => [(0, .ref t), (1, .int p1), (2, .int p2), (3, .int v6), (4, .int v2)]) (fun v6 M7 => []) (fun v6 M7 => M7) (fun v6 M7 => ?_) (fun j8 hj9 => ?_)
    · skip
      refine r_iinc (pc' := 43) (v := 1) hx (hd 22) 4 rfl (by decide) (by decide) (fun v10 => [(4, .int v10), (0, .ref t), (1, .int p1), (2, .int p2), (3, .int v6)]) (fun _ => rfl) rfl (fun v10 => ?_)
      refine r_goto (tgt := 5) hx (hd 23) (by decide) ?_
      refine r_sub [1, 2, 3, 4, 0] rfl ?_
      exact ih5 v6 v10 M7
    refine r_icmp_eq (tgt := 40) (pc' := 18) hx (hd 9) (by decide) (fun _ => ?_) rfl (fun _ => ?_)
    · skip
      exact hj9 v1 M3
    · skip
      refine r_iload (pc' := 20) hx (hd 10) 4 rfl rfl ?_
      refine r_iload_n (pc' := 21) hx (hd 11) rfl 2 rfl rfl ?_
      refine r_icmp_eq (tgt := 40) (pc' := 24) hx (hd 12) (by decide) (fun _ => ?_) rfl (fun _ => ?_)
      · skip
        exact hj9 v1 M3
      · skip
        refine r_aload_n (pc' := 25) hx (hd 13) rfl 0 rfl rfl ?_
        refine r_get (pc' := 28) (v := .ref (t + 27)) hx (hd 14) fl_12_134 ht rfl (by decide) rfl ?_
        have h11 := hL.1 _ _ _ ht 47 27 20 5 rfl
        refine r_iload_n (pc' := 29) hx (hd 15) rfl 3 rfl rfl ?_
        refine r_aload_n (pc' := 30) hx (hd 16) rfl 0 rfl rfl ?_
        refine r_get (pc' := 33) (v := .ref (t + 31)) hx (hd 17) fl_12_146 ht rfl (by decide) rfl ?_
        have h12 := hL.1 _ _ _ ht 52 31 20 6 rfl
        refine r_iload (pc' := 35) hx (hd 18) 4 rfl rfl ?_
        refine r_gd (fun h13 => ?_)
        refine r_iald (pc' := 36) (k := ix v2) hx (hd 19) h12 h13 rfl rfl ?_
        refine r_gd (fun h15 => ?_)
        refine r_iast (pc' := 37) (k := ix v1) hx (hd 20) h11 h15 rfl rfl (fun M14 => ?_)
        refine r_iinc (pc' := 40) (v := 1) hx (hd 21) 3 rfl (by decide) (by decide) (fun v16 => [(3, .int v16), (0, .ref t), (1, .int p1), (2, .int p2), (4, .int v2)]) (fun _ => rfl) rfl (fun v16 => ?_)
        refine r_sub [1, 2, 3, 0, 4] rfl ?_
        exact hj9 v16 M14
abbrev yX12_withAll : MethodName := ({ cls := "CribbageRoomModel", name := "withAll", desc := "()I" } : Jvm.MethodName)
def tbX12_withAll : List (Nat × Instr × Nat) := [(0, .iconst 0, 1), (1, .istore_n 1, 1), (2, .iconst 0, 1), (3, .istore_n 2, 1), (4, .iload_n 2, 1), (5, .bipush 52, 2), (7, .if_icmp .ge 32, 3), (10, .aload_n 0, 1), (11, .iload_n 2, 1), (12, .invokevirtual 261, 3), (15, .ifCond .ne 18, 3), (18, .aload_n 0, 1), (19, .getfield 134, 3), (22, .iconst 4, 1), (23, .iload_n 2, 1), (24, .iastore, 1), (25, .iload_n 1, 1), (26, .aload_n 0, 1), (27, .iconst 0, 1), (28, .invokevirtual 484, 3), (31, .iadd, 1), (32, .istore_n 1, 1), (33, .iinc 2 1, 3), (36, .goto (-32), 3), (39, .iload_n 1, 1), (40, .ireturn, 1)]
theorem dX12_withAll : ∀ q ∈ tbX12_withAll, decode prog_14_method_105_code q.1 = .ok q.2 := by decide +kernel
set_option maxRecDepth 20000 in
theorem cX12_withAll (l : Launch) (w : WX) (hL : Lay w) (t : Nat) (ht : Wat w t 12 0) (M : Mem) : Ct l w yX12_withAll prog_14_method_105_code 3 (Option.some FieldType.int) 3 67 evIM emM [.ref t] M (FX12_withAll t M) := by
  refine ct_of (by decide) (Nat.le_of_ble_eq_true rfl) (fun x hl hx hb hz => ?_)
  subst hl
  have hd : ∀ i, DAt (xc x).code (tbX12_withAll[i]?) := fun i => by rw [hb]; exact dat_of dX12_withAll i
  show C x w (Qn x w evIM emM) 3 0 [(0, .ref t)] [] M (FX12_withAll t M)
  unfold FX12_withAll
  refine r_iconst (pc' := 1) (v := 0) hx (hd 0) (by decide) rfl ?_
  refine r_istore_n (pc' := 2) (L' := [(1, .int 0), (0, .ref t)]) hx (hd 1) rfl (by decide) rfl rfl ?_
  refine r_iconst (pc' := 3) (v := 0) hx (hd 2) (by decide) rfl ?_
  refine r_istore_n (pc' := 4) (L' := [(2, .int 0), (1, .int 0), (0, .ref t)]) hx (hd 3) rfl (by decide) rfl rfl ?_
  refine r_sub [2, 1, 0] rfl ?_
  refine r_wl3 (fun v1 v2 M3 => [(0, .ref t), (1, .int v1), (2, .int v2)]) (fun v1 v2 M3 => []) (fun v1 v2 M3 => M3) (fun v1 v2 M3 rec4 ih5 => ?_) fuel 0 0 M
  refine r_iload_n (pc' := 5) hx (hd 4) rfl 2 rfl rfl ?_
  refine r_bipush (pc' := 7) (v := 52) hx (hd 5) (by decide) rfl ?_
  refine r_icmp_ge (tgt := 39) (pc' := 10) hx (hd 6) (by decide) (fun _ => ?_) rfl (fun _ => ?_)
  · skip
    refine r_iload_n (pc' := 40) hx (hd 24) rfl 1 rfl rfl ?_
    exact r_iret hx (hd 25) rfl rfl hz
  · skip
    refine r_aload_n (pc' := 11) hx (hd 7) rfl 0 rfl rfl ?_
    refine r_iload_n (pc' := 12) hx (hd 8) rfl 2 rfl rfl ?_
    refine r_callV (pc' := 15) (As := [.int v2]) (rest := []) hx (hd 9) md_X12_isHeld mi_X12_isHeld ms_X12_isHeld ml_12_261 (cX12_isHeld (xl x) w hL t ht v2 M3) ht rfl (by decide) ⟨Nat.le_of_ble_eq_true rfl, Nat.le_of_ble_eq_true rfl⟩ rfl rfl (Nat.le_of_ble_eq_true rfl) (fun r6 => .int r6 :: []) (fun _ => M3) (fun _ => ⟨rfl, rfl⟩) rfl (fun r6 _ => ?_)
    refine r_jn2 33 (fun v7 M8 => [(0, .ref t), (1, .int v7), (2, .int v2)]) (fun v7 M8 => []) (fun v7 M8 => M8) (fun v7 M8 => ?_) (fun j9 hj10 => ?_)
    · skip
      refine r_iinc (pc' := 36) (v := 1) hx (hd 22) 2 rfl (by decide) (by decide) (fun v11 => [(2, .int v11), (0, .ref t), (1, .int v7)]) (fun _ => rfl) rfl (fun v11 => ?_)
      refine r_goto (tgt := 4) hx (hd 23) (by decide) ?_
      refine r_sub [1, 2, 0] rfl ?_
      exact ih5 v7 v11 M8
    refine r_if_ne (tgt := 33) (pc' := 18) hx (hd 10) (by decide) (fun _ => ?_) rfl (fun _ => ?_)
    · skip
      exact hj10 v1 M3
    · skip
      refine r_aload_n (pc' := 19) hx (hd 11) rfl 0 rfl rfl ?_
      refine r_get (pc' := 22) (v := .ref (t + 27)) hx (hd 12) fl_12_134 ht rfl (by decide) rfl ?_
      have h12 := hL.1 _ _ _ ht 47 27 20 5 rfl
      refine r_iconst (pc' := 23) (v := 4) hx (hd 13) (by decide) rfl ?_
      refine r_iload_n (pc' := 24) hx (hd 14) rfl 2 rfl rfl ?_
      refine r_iast (pc' := 25) (k := 4) hx (hd 15) h12 (by decide) (by decide) rfl (fun M13 => ?_)
      refine r_iload_n (pc' := 26) hx (hd 16) rfl 1 rfl rfl ?_
      refine r_aload_n (pc' := 27) hx (hd 17) rfl 0 rfl rfl ?_
      refine r_iconst (pc' := 28) (v := 0) hx (hd 18) (by decide) rfl ?_
      refine r_callVI (pc' := 31) (As := [.int 0]) (rest := [.int v1]) hx (hd 19) md_X12_countFive mi_X12_countFive ms_X12_countFive ml_12_484 (cX12_countFive (xl x) w hL t ht 0 M13) ht rfl (by decide) ⟨Nat.le_of_ble_eq_true rfl, Nat.le_of_ble_eq_true rfl⟩ rfl rfl (Nat.le_of_ble_eq_true rfl) (fun r15 => .int r15 :: [.int v1]) (fun _ => rfl) rfl (fun r15 M14 => ?_)
      refine r_iadd (pc' := 32) hx (hd 20) rfl ?_
      refine r_nmI (fun v16 => ?_)
      refine r_istore_n (pc' := 33) (L' := [(1, .int v16), (0, .ref t), (2, .int v2)]) hx (hd 21) rfl (by decide) rfl rfl ?_
      refine r_sub [1, 0, 2] rfl ?_
      exact hj10 v16 M14
abbrev yX12_kept : MethodName := ({ cls := "CribbageRoomModel", name := "kept", desc := "(I)I" } : Jvm.MethodName)
def tbX12_kept : List (Nat × Instr × Nat) := [(0, .aload_n 0, 1), (1, .iconst 0, 1), (2, .putfield 188, 3), (5, .aload_n 0, 1), (6, .invokevirtual 554, 3), (9, .bipush 6, 2), (11, .if_icmp .ne 15, 3), (14, .iload_n 1, 1), (15, .i2l, 1), (16, .lconst 0, 1), (17, .ldc2_w 566, 3), (20, .invokestatic 208, 3), (23, .ifCond .ne 5, 3), (26, .iconst (-1), 1), (27, .ireturn, 1), (28, .aload_n 0, 1), (29, .invokevirtual 557, 3), (32, .pop, 1), (33, .aload_n 0, 1), (34, .iconst 0, 1), (35, .invokevirtual 481, 3), (38, .iconst (-1), 1), (39, .istore_n 2, 1), (40, .iconst (-1), 1), (41, .istore_n 3, 1), (42, .iconst (-1), 1), (43, .istore 4, 2), (45, .iconst 0, 1), (46, .istore 5, 2), (48, .iload 5, 2), (50, .bipush 6, 2), (52, .if_icmp .ge 93, 3), (55, .iload 5, 2), (57, .iconst 1, 1), (58, .iadd, 1), (59, .istore 6, 2), (61, .iload 6, 2), (63, .bipush 6, 2), (65, .if_icmp .ge 74, 3), (68, .aload_n 0, 1), (69, .iload 5, 2), (71, .iload 6, 2), (73, .invokevirtual 568, 3), (76, .aload_n 0, 1), (77, .invokevirtual 571, 3), (80, .istore 7, 2), (82, .iload 7, 2), (84, .iload_n 2, 1), (85, .if_icmp .le 13, 3), (88, .aload_n 0, 1), (89, .getfield 146, 3), (92, .iload 5, 2), (94, .iaload, 1), (95, .goto 4, 3), (98, .iload_n 3, 1), (99, .istore_n 3, 1), (100, .iload 7, 2), (102, .iload_n 2, 1), (103, .if_icmp .le 13, 3), (106, .aload_n 0, 1), (107, .getfield 146, 3), (110, .iload 6, 2), (112, .iaload, 1), (113, .goto 5, 3), (116, .iload 4, 2), (118, .istore 4, 2), (120, .iload 7, 2), (122, .iload_n 2, 1), (123, .if_icmp .le 8, 3), (126, .iload 7, 2), (128, .goto 4, 3), (131, .iload_n 2, 1), (132, .istore_n 2, 1), (133, .iinc 6 1, 3), (136, .goto (-75), 3), (139, .iinc 5 1, 3), (142, .goto (-94), 3), (145, .iload_n 1, 1), (146, .ifCond .ne 7, 3), (149, .iload_n 2, 1), (150, .goto 14, 3), (153, .iload_n 1, 1), (154, .iconst 1, 1), (155, .if_icmp .ne 7, 3), (158, .iload_n 3, 1), (159, .goto 5, 3), (162, .iload 4, 2), (164, .ireturn, 1)]
theorem dX12_kept : ∀ q ∈ tbX12_kept, decode prog_14_method_106_code q.1 = .ok q.2 := by decide +kernel
set_option maxRecDepth 20000 in
theorem cX12_kept (l : Launch) (w : WX) (hL : Lay w) (t : Nat) (ht : Wat w t 12 0) (p1 : Int32) (M : Mem) : Ct l w yX12_kept prog_14_method_106_code 8 (Option.some FieldType.int) 6 151 evIM emM [.ref t, .int p1] M (FX12_kept t p1 M) := by
  refine ct_of (by decide) (Nat.le_of_ble_eq_true rfl) (fun x hl hx hb hz => ?_)
  subst hl
  have hd : ∀ i, DAt (xc x).code (tbX12_kept[i]?) := fun i => by rw [hb]; exact dat_of dX12_kept i
  show C x w (Qn x w evIM emM) 8 0 [(0, .ref t), (1, .int p1)] [] M (FX12_kept t p1 M)
  unfold FX12_kept
  refine r_aload_n (pc' := 1) hx (hd 0) rfl 0 rfl rfl ?_
  refine r_iconst (pc' := 2) (v := 0) hx (hd 1) (by decide) rfl ?_
  refine r_putI (pc' := 5) hx (hd 2) fp_12_188 ht rfl (by decide) rfl (fun M1 => ?_)
  refine r_aload_n (pc' := 6) hx (hd 3) rfl 0 rfl rfl ?_
  refine r_callV (pc' := 9) (As := []) (rest := []) hx (hd 4) md_X12_heldOnes mi_X12_heldOnes ms_X12_heldOnes ml_12_554 (cX12_heldOnes (xl x) w hL t ht M1) ht rfl (by decide) ⟨Nat.le_of_ble_eq_true rfl, Nat.le_of_ble_eq_true rfl⟩ rfl rfl (Nat.le_of_ble_eq_true rfl) (fun r2 => .int r2 :: []) (fun _ => M1) (fun _ => ⟨rfl, rfl⟩) rfl (fun r2 _ => ?_)
  refine r_bipush (pc' := 11) (v := 6) hx (hd 5) (by decide) rfl ?_
  refine r_jn0 26 ([]) ([]) (M1) (?_) (fun j3 hj4 => ?_)
  · skip
    refine r_iconst (pc' := 27) (v := (-1)) hx (hd 13) (by decide) rfl ?_
    exact r_iret hx (hd 14) rfl rfl hz
  refine r_icmp_ne (tgt := 26) (pc' := 14) hx (hd 6) (by decide) (fun _ => ?_) rfl (fun _ => ?_)
  · skip
    refine r_sub [] rfl ?_
    exact hj4
  · skip
    refine r_iload_n (pc' := 15) hx (hd 7) rfl 1 rfl rfl ?_
    refine r_i2l (pc' := 16) hx (hd 8) rfl ?_
    refine r_lconst (pc' := 17) (v := 0) hx (hd 9) (by decide) rfl ?_
    refine r_ldc2 (pc' := 20) hx (hd 10) kc_12_566 rfl ?_
    refine r_callS (pc' := 23) (As := [.long p1.toInt64, .long 0, .long 2]) (rest := []) hx (hd 11) md_X12_in mst_X12_in ml_12_208 (cX12_in (xl x) w hL (p1.toInt64) 0 2 M1) ⟨Nat.le_of_ble_eq_true rfl, Nat.le_of_ble_eq_true rfl⟩ rfl rfl (Nat.le_of_ble_eq_true rfl) (fun r5 => .int r5 :: []) (fun _ => M1) (fun _ => ⟨rfl, rfl⟩) rfl (fun r5 _ => ?_)
    refine r_if_ne (tgt := 28) (pc' := 26) hx (hd 12) (by decide) (fun _ => ?_) rfl (fun _ => ?_)
    · skip
      refine r_aload_n (pc' := 29) hx (hd 15) rfl 0 rfl rfl ?_
      refine r_callVI (pc' := 32) (As := []) (rest := []) hx (hd 16) md_X12_laySix mi_X12_laySix ms_X12_laySix ml_12_557 (cX12_laySix (xl x) w hL t ht M1) ht rfl (by decide) ⟨Nat.le_of_ble_eq_true rfl, Nat.le_of_ble_eq_true rfl⟩ rfl rfl (Nat.le_of_ble_eq_true rfl) (fun r7 => .int r7 :: []) (fun _ => rfl) rfl (fun r7 M6 => ?_)
      refine r_pop (pc' := 33) hx (hd 17) rfl rfl ?_
      refine r_aload_n (pc' := 34) hx (hd 18) rfl 0 rfl rfl ?_
      refine r_iconst (pc' := 35) (v := 0) hx (hd 19) (by decide) rfl ?_
      refine r_callVU (pc' := 38) (As := [.int 0]) (rest := []) hx (hd 20) md_X12_layCounts mi_X12_layCounts ms_X12_layCounts ml_12_481 (cX12_layCounts (xl x) w hL t ht 0 M6) ht rfl (by decide) ⟨Nat.le_of_ble_eq_true rfl, Nat.le_of_ble_eq_true rfl⟩ rfl rfl (Nat.le_of_ble_eq_true rfl) rfl (fun M8 => ?_)
      refine r_iconst (pc' := 39) (v := (-1)) hx (hd 21) (by decide) rfl ?_
      refine r_istore_n (pc' := 40) (L' := [(2, .int (-1)), (0, .ref t), (1, .int p1)]) hx (hd 22) rfl (by decide) rfl rfl ?_
      refine r_iconst (pc' := 41) (v := (-1)) hx (hd 23) (by decide) rfl ?_
      refine r_istore_n (pc' := 42) (L' := [(3, .int (-1)), (2, .int (-1)), (0, .ref t), (1, .int p1)]) hx (hd 24) rfl (by decide) rfl rfl ?_
      refine r_iconst (pc' := 43) (v := (-1)) hx (hd 25) (by decide) rfl ?_
      refine r_istore (pc' := 45) (L' := [(4, .int (-1)), (3, .int (-1)), (2, .int (-1)), (0, .ref t), (1, .int p1)]) hx (hd 26) (by decide) rfl rfl ?_
      refine r_iconst (pc' := 46) (v := 0) hx (hd 27) (by decide) rfl ?_
      refine r_istore (pc' := 48) (L' := [(5, .int 0), (4, .int (-1)), (3, .int (-1)), (2, .int (-1)), (0, .ref t), (1, .int p1)]) hx (hd 28) (by decide) rfl rfl ?_
      refine r_sub [4, 5, 3, 2, 1, 0] rfl ?_
      refine r_wl5 (fun v9 v10 v11 v12 M13 => [(0, .ref t), (1, .int p1), (2, .int v9), (3, .int v10), (4, .int v11), (5, .int v12)]) (fun v9 v10 v11 v12 M13 => []) (fun v9 v10 v11 v12 M13 => M13) (fun v9 v10 v11 v12 M13 rec14 ih15 => ?_) fuel (-1) (-1) (-1) 0 M8
      refine r_iload (pc' := 50) hx (hd 29) 5 rfl rfl ?_
      refine r_bipush (pc' := 52) (v := 6) hx (hd 30) (by decide) rfl ?_
      refine r_icmp_ge (tgt := 145) (pc' := 55) hx (hd 31) (by decide) (fun _ => ?_) rfl (fun _ => ?_)
      · skip
        refine r_iload_n (pc' := 146) hx (hd 77) rfl 1 rfl rfl ?_
        refine r_jn1 164 (fun v16 => []) (fun v16 => [.int v16]) (fun v16 => M13) (fun v16 => ?_) (fun j17 hj18 => ?_)
        · skip
          exact r_iret hx (hd 87) rfl rfl hz
        refine r_if_ne (tgt := 153) (pc' := 149) hx (hd 78) (by decide) (fun _ => ?_) rfl (fun _ => ?_)
        · skip
          refine r_iload_n (pc' := 154) hx (hd 81) rfl 1 rfl rfl ?_
          refine r_iconst (pc' := 155) (v := 1) hx (hd 82) (by decide) rfl ?_
          refine r_icmp_ne (tgt := 162) (pc' := 158) hx (hd 83) (by decide) (fun _ => ?_) rfl (fun _ => ?_)
          · skip
            refine r_iload (pc' := 164) hx (hd 86) 4 rfl rfl ?_
            refine r_sub [] rfl ?_
            exact hj18 v11
          · skip
            refine r_iload_n (pc' := 159) hx (hd 84) rfl 3 rfl rfl ?_
            refine r_goto (tgt := 164) hx (hd 85) (by decide) ?_
            refine r_sub [] rfl ?_
            exact hj18 v10
        · skip
          refine r_iload_n (pc' := 150) hx (hd 79) rfl 2 rfl rfl ?_
          refine r_goto (tgt := 164) hx (hd 80) (by decide) ?_
          refine r_sub [] rfl ?_
          exact hj18 v9
      · skip
        refine r_iload (pc' := 57) hx (hd 32) 5 rfl rfl ?_
        refine r_iconst (pc' := 58) (v := 1) hx (hd 33) (by decide) rfl ?_
        refine r_iadd (pc' := 59) hx (hd 34) rfl ?_
        refine r_nmI (fun v19 => ?_)
        refine r_istore (pc' := 61) (L' := [(6, .int v19), (0, .ref t), (1, .int p1), (2, .int v9), (3, .int v10), (4, .int v11), (5, .int v12)]) hx (hd 35) (by decide) rfl rfl ?_
        refine r_sub [1, 2, 3, 4, 5, 6, 0] rfl ?_
        refine r_wl5 (fun v20 v21 v22 v23 M24 => [(0, .ref t), (1, .int p1), (2, .int v20), (3, .int v21), (4, .int v22), (5, .int v12), (6, .int v23)]) (fun v20 v21 v22 v23 M24 => []) (fun v20 v21 v22 v23 M24 => M24) (fun v20 v21 v22 v23 M24 rec25 ih26 => ?_) fuel v9 v10 v11 v19 M13
        refine r_iload (pc' := 63) hx (hd 36) 6 rfl rfl ?_
        refine r_bipush (pc' := 65) (v := 6) hx (hd 37) (by decide) rfl ?_
        refine r_icmp_ge (tgt := 139) (pc' := 68) hx (hd 38) (by decide) (fun _ => ?_) rfl (fun _ => ?_)
        · skip
          refine r_iinc (pc' := 142) (v := 1) hx (hd 75) 5 rfl (by decide) (by decide) (fun v27 => [(5, .int v27), (0, .ref t), (1, .int p1), (2, .int v20), (3, .int v21), (4, .int v22), (6, .int v23)]) (fun _ => rfl) rfl (fun v27 => ?_)
          refine r_goto (tgt := 48) hx (hd 76) (by decide) ?_
          refine r_sub [1, 2, 3, 4, 5, 0] rfl ?_
          exact ih15 v20 v21 v22 v27 M24
        · skip
          refine r_aload_n (pc' := 69) hx (hd 39) rfl 0 rfl rfl ?_
          refine r_iload (pc' := 71) hx (hd 40) 5 rfl rfl ?_
          refine r_iload (pc' := 73) hx (hd 41) 6 rfl rfl ?_
          refine r_callVU (pc' := 76) (As := [.int v12, .int v23]) (rest := []) hx (hd 42) md_X12_takeFour mi_X12_takeFour ms_X12_takeFour ml_12_568 (cX12_takeFour (xl x) w hL t ht v12 v23 M24) ht rfl (by decide) ⟨Nat.le_of_ble_eq_true rfl, Nat.le_of_ble_eq_true rfl⟩ rfl rfl (Nat.le_of_ble_eq_true rfl) rfl (fun M28 => ?_)
          refine r_aload_n (pc' := 77) hx (hd 43) rfl 0 rfl rfl ?_
          refine r_callVI (pc' := 80) (As := []) (rest := []) hx (hd 44) md_X12_withAll mi_X12_withAll ms_X12_withAll ml_12_571 (cX12_withAll (xl x) w hL t ht M28) ht rfl (by decide) ⟨Nat.le_of_ble_eq_true rfl, Nat.le_of_ble_eq_true rfl⟩ rfl rfl (Nat.le_of_ble_eq_true rfl) (fun r30 => .int r30 :: []) (fun _ => rfl) rfl (fun r30 M29 => ?_)
          refine r_istore (pc' := 82) (L' := [(7, .int r30), (0, .ref t), (1, .int p1), (2, .int v20), (3, .int v21), (4, .int v22), (5, .int v12), (6, .int v23)]) hx (hd 45) (by decide) rfl rfl ?_
          refine r_iload (pc' := 84) hx (hd 46) 0 rfl rfl ?_
          refine r_iload_n (pc' := 85) hx (hd 47) rfl 3 rfl rfl ?_
          refine r_jn1 99 (fun v31 => [(0, .ref t), (1, .int p1), (2, .int v20), (4, .int v22), (5, .int v12), (6, .int v23), (7, .int r30)]) (fun v31 => [.int v31]) (fun v31 => M29) (fun v31 => ?_) (fun j32 hj33 => ?_)
          · skip
            refine r_istore_n (pc' := 100) (L' := [(3, .int v31), (0, .ref t), (1, .int p1), (2, .int v20), (4, .int v22), (5, .int v12), (6, .int v23), (7, .int r30)]) hx (hd 55) rfl (by decide) rfl rfl ?_
            refine r_iload (pc' := 102) hx (hd 56) 7 rfl rfl ?_
            refine r_iload_n (pc' := 103) hx (hd 57) rfl 3 rfl rfl ?_
            refine r_jn1 118 (fun v34 => [(0, .ref t), (1, .int p1), (2, .int v20), (3, .int v31), (5, .int v12), (6, .int v23), (7, .int r30)]) (fun v34 => [.int v34]) (fun v34 => M29) (fun v34 => ?_) (fun j35 hj36 => ?_)
            · skip
              refine r_istore (pc' := 120) (L' := [(4, .int v34), (0, .ref t), (1, .int p1), (2, .int v20), (3, .int v31), (5, .int v12), (6, .int v23), (7, .int r30)]) hx (hd 65) (by decide) rfl rfl ?_
              refine r_iload (pc' := 122) hx (hd 66) 7 rfl rfl ?_
              refine r_iload_n (pc' := 123) hx (hd 67) rfl 3 rfl rfl ?_
              refine r_jn1 132 (fun v37 => [(0, .ref t), (1, .int p1), (3, .int v31), (4, .int v34), (5, .int v12), (6, .int v23)]) (fun v37 => [.int v37]) (fun v37 => M29) (fun v37 => ?_) (fun j38 hj39 => ?_)
              · skip
                refine r_istore_n (pc' := 133) (L' := [(2, .int v37), (0, .ref t), (1, .int p1), (3, .int v31), (4, .int v34), (5, .int v12), (6, .int v23)]) hx (hd 72) rfl (by decide) rfl rfl ?_
                refine r_iinc (pc' := 136) (v := 1) hx (hd 73) 6 rfl (by decide) (by decide) (fun v40 => [(6, .int v40), (2, .int v37), (0, .ref t), (1, .int p1), (3, .int v31), (4, .int v34), (5, .int v12)]) (fun _ => rfl) rfl (fun v40 => ?_)
                refine r_goto (tgt := 61) hx (hd 74) (by decide) ?_
                refine r_sub [2, 3, 1, 4, 5, 6, 0] rfl ?_
                exact ih26 v37 v31 v34 v40 M29
              refine r_icmp_le (tgt := 131) (pc' := 126) hx (hd 68) (by decide) (fun _ => ?_) rfl (fun _ => ?_)
              · skip
                refine r_iload_n (pc' := 132) hx (hd 71) rfl 3 rfl rfl ?_
                refine r_sub [1, 2, 4, 0, 5, 6] rfl ?_
                exact hj39 v20
              · skip
                refine r_iload (pc' := 128) hx (hd 69) 7 rfl rfl ?_
                refine r_goto (tgt := 132) hx (hd 70) (by decide) ?_
                refine r_sub [1, 2, 4, 0, 5, 6] rfl ?_
                exact hj39 r30
            refine r_icmp_le (tgt := 116) (pc' := 106) hx (hd 58) (by decide) (fun _ => ?_) rfl (fun _ => ?_)
            · skip
              refine r_iload (pc' := 118) hx (hd 64) 4 rfl rfl ?_
              refine r_sub [1, 2, 3, 0, 5, 6, 7] rfl ?_
              exact hj36 v22
            · skip
              refine r_aload_n (pc' := 107) hx (hd 59) rfl 1 rfl rfl ?_
              refine r_get (pc' := 110) (v := .ref (t + 31)) hx (hd 60) fl_12_146 ht rfl (by decide) rfl ?_
              have h41 := hL.1 _ _ _ ht 52 31 20 6 rfl
              refine r_iload (pc' := 112) hx (hd 61) 6 rfl rfl ?_
              refine r_gd (fun h42 => ?_)
              refine r_iald (pc' := 113) (k := ix v23) hx (hd 62) h41 h42 rfl rfl ?_
              refine r_goto (tgt := 118) hx (hd 63) (by decide) ?_
              refine r_sub [1, 2, 3, 0, 5, 6, 7] rfl ?_
              exact hj36 (mI M29 (t + 31) (ix v23))
          refine r_icmp_le (tgt := 98) (pc' := 88) hx (hd 48) (by decide) (fun _ => ?_) rfl (fun _ => ?_)
          · skip
            refine r_iload_n (pc' := 99) hx (hd 54) rfl 4 rfl rfl ?_
            refine r_sub [1, 2, 3, 5, 6, 7, 0] rfl ?_
            exact hj33 v21
          · skip
            refine r_aload_n (pc' := 89) hx (hd 49) rfl 1 rfl rfl ?_
            refine r_get (pc' := 92) (v := .ref (t + 31)) hx (hd 50) fl_12_146 ht rfl (by decide) rfl ?_
            have h43 := hL.1 _ _ _ ht 52 31 20 6 rfl
            refine r_iload (pc' := 94) hx (hd 51) 6 rfl rfl ?_
            refine r_gd (fun h44 => ?_)
            refine r_iald (pc' := 95) (k := ix v12) hx (hd 52) h43 h44 rfl rfl ?_
            refine r_goto (tgt := 99) hx (hd 53) (by decide) ?_
            refine r_sub [1, 2, 3, 5, 6, 7, 0] rfl ?_
            exact hj33 (mI M29 (t + 31) (ix v12))
    · skip
      refine r_sub [] rfl ?_
      exact hj4
abbrev yX12_isFree : MethodName := ({ cls := "CribbageRoomModel", name := "isFree", desc := "(III)Z" } : Jvm.MethodName)
def tbX12_isFree : List (Nat × Instr × Nat) := [(0, .aload_n 0, 1), (1, .iload_n 1, 1), (2, .invokevirtual 261, 3), (5, .ifCond .ne 17, 3), (8, .iload_n 1, 1), (9, .iload_n 2, 1), (10, .if_icmp .eq 12, 3), (13, .iload_n 1, 1), (14, .iload_n 3, 1), (15, .if_icmp .eq 7, 3), (18, .iconst 1, 1), (19, .goto 4, 3), (22, .iconst 0, 1), (23, .ireturn, 1)]
theorem dX12_isFree : ∀ q ∈ tbX12_isFree, decode prog_14_method_108_code q.1 = .ok q.2 := by decide +kernel
set_option maxRecDepth 20000 in
theorem cX12_isFree (l : Launch) (w : WX) (hL : Lay w) (t : Nat) (ht : Wat w t 12 0) (p1 : Int32) (p2 : Int32) (p3 : Int32) (M : Mem) : Ct l w yX12_isFree prog_14_method_108_code 4 (Option.some FieldType.boolean) 1 21 evI (emC M) [.ref t, .int p1, .int p2, .int p3] M (FX12_isFree t p1 p2 p3 M) := by
  refine ct_of (by decide) (Nat.le_of_ble_eq_true rfl) (fun x hl hx hb hz => ?_)
  subst hl
  have hd : ∀ i, DAt (xc x).code (tbX12_isFree[i]?) := fun i => by rw [hb]; exact dat_of dX12_isFree i
  show C x w (Qn x w evI (emC M)) 4 0 [(0, .ref t), (1, .int p1), (2, .int p2), (3, .int p3)] [] M (FX12_isFree t p1 p2 p3 M)
  unfold FX12_isFree
  refine r_aload_n (pc' := 1) hx (hd 0) rfl 0 rfl rfl ?_
  refine r_iload_n (pc' := 2) hx (hd 1) rfl 1 rfl rfl ?_
  refine r_callV (pc' := 5) (As := [.int p1]) (rest := []) hx (hd 2) md_X12_isHeld mi_X12_isHeld ms_X12_isHeld ml_12_261 (cX12_isHeld (xl x) w hL t ht p1 M) ht rfl (by decide) ⟨Nat.le_of_ble_eq_true rfl, Nat.le_of_ble_eq_true rfl⟩ rfl rfl (Nat.le_of_ble_eq_true rfl) (fun r1 => .int r1 :: []) (fun _ => M) (fun _ => ⟨rfl, rfl⟩) rfl (fun r1 _ => ?_)
  refine r_jn1 23 (fun v2 => []) (fun v2 => [.int v2]) (fun v2 => M) (fun v2 => ?_) (fun j3 hj4 => ?_)
  · skip
    refine r_gd (fun h5 => ?_)
    exact r_zret hx (hd 13) h5 rfl rfl hz
  refine r_jn0 22 ([]) ([]) (M) (?_) (fun j6 hj7 => ?_)
  · skip
    refine r_iconst (pc' := 23) (v := 0) hx (hd 12) (by decide) rfl ?_
    exact hj4 0
  refine r_if_ne (tgt := 22) (pc' := 8) hx (hd 3) (by decide) (fun _ => ?_) rfl (fun _ => ?_)
  · skip
    refine r_sub [] rfl ?_
    exact hj7
  · skip
    refine r_iload_n (pc' := 9) hx (hd 4) rfl 1 rfl rfl ?_
    refine r_iload_n (pc' := 10) hx (hd 5) rfl 2 rfl rfl ?_
    refine r_icmp_eq (tgt := 22) (pc' := 13) hx (hd 6) (by decide) (fun _ => ?_) rfl (fun _ => ?_)
    · skip
      refine r_sub [] rfl ?_
      exact hj7
    · skip
      refine r_iload_n (pc' := 14) hx (hd 7) rfl 1 rfl rfl ?_
      refine r_iload_n (pc' := 15) hx (hd 8) rfl 3 rfl rfl ?_
      refine r_icmp_eq (tgt := 22) (pc' := 18) hx (hd 9) (by decide) (fun _ => ?_) rfl (fun _ => ?_)
      · skip
        refine r_sub [] rfl ?_
        exact hj7
      · skip
        refine r_iconst (pc' := 19) (v := 1) hx (hd 10) (by decide) rfl ?_
        refine r_goto (tgt := 23) hx (hd 11) (by decide) ?_
        refine r_sub [] rfl ?_
        exact hj4 1
abbrev yX12_cribOf : MethodName := ({ cls := "CribbageRoomModel", name := "cribOf", desc := "(II)J" } : Jvm.MethodName)
def tbX12_cribOf : List (Nat × Instr × Nat) := [(0, .aload_n 0, 1), (1, .iconst 0, 1), (2, .putfield 188, 3), (5, .iload_n 1, 1), (6, .invokestatic 217, 3), (9, .ifCond .eq 15, 3), (12, .iload_n 2, 1), (13, .invokestatic 217, 3), (16, .ifCond .eq 8, 3), (19, .iload_n 1, 1), (20, .iload_n 2, 1), (21, .if_icmp .ne 7, 3), (24, .ldc2_w 297, 3), (27, .lreturn, 1), (28, .aload_n 0, 1), (29, .iconst 1, 1), (30, .invokevirtual 481, 3), (33, .aload_n 0, 1), (34, .getfield 134, 3), (37, .iconst 0, 1), (38, .iload_n 1, 1), (39, .iastore, 1), (40, .aload_n 0, 1), (41, .getfield 134, 3), (44, .iconst 1, 1), (45, .iload_n 2, 1), (46, .iastore, 1), (47, .lconst 0, 1), (48, .lstore_n 3, 1), (49, .iconst 0, 1), (50, .istore 5, 2), (52, .iload 5, 2), (54, .bipush 52, 2), (56, .if_icmp .ge 121, 3), (59, .iconst 0, 1), (60, .istore 6, 2), (62, .iload 6, 2), (64, .iload 5, 2), (66, .if_icmp .ge 105, 3), (69, .aload_n 0, 1), (70, .iload 5, 2), (72, .iload_n 1, 1), (73, .iload_n 2, 1), (74, .invokevirtual 574, 3), (77, .ifCond .eq 94, 3), (80, .iconst 0, 1), (81, .istore 7, 2), (83, .iload 7, 2), (85, .bipush 52, 2), (87, .if_icmp .ge 78, 3), (90, .aload_n 0, 1), (91, .iload 6, 2), (93, .iload_n 1, 1), (94, .iload_n 2, 1), (95, .invokevirtual 574, 3), (98, .ifCond .eq 67, 3), (101, .iload 7, 2), (103, .iload 5, 2), (105, .if_icmp .eq 54, 3), (108, .iload 7, 2), (110, .iload 6, 2), (112, .if_icmp .eq 47, 3), (115, .aload_n 0, 1), (116, .iload 7, 2), (118, .iload_n 1, 1), (119, .iload_n 2, 1), (120, .invokevirtual 574, 3), (123, .ifCond .eq 36, 3), (126, .aload_n 0, 1), (127, .getfield 134, 3), (130, .iconst 2, 1), (131, .iload 5, 2), (133, .iastore, 1), (134, .aload_n 0, 1), (135, .getfield 134, 3), (138, .iconst 3, 1), (139, .iload 6, 2), (141, .iastore, 1), (142, .aload_n 0, 1), (143, .getfield 134, 3), (146, .iconst 4, 1), (147, .iload 7, 2), (149, .iastore, 1), (150, .lload_n 3, 1), (151, .aload_n 0, 1), (152, .iconst 1, 1), (153, .invokevirtual 484, 3), (156, .i2l, 1), (157, .ladd, 1), (158, .lstore_n 3, 1), (159, .iinc 7 1, 3), (162, .goto (-79), 3), (165, .iinc 6 1, 3), (168, .goto (-106), 3), (171, .iinc 5 1, 3), (174, .goto (-122), 3), (177, .lload_n 3, 1), (178, .lreturn, 1)]
theorem dX12_cribOf : ∀ q ∈ tbX12_cribOf, decode prog_14_method_107_code q.1 = .ok q.2 := by decide +kernel
set_option maxRecDepth 20000 in
theorem cX12_cribOf (l : Launch) (w : WX) (hL : Lay w) (t : Nat) (ht : Wat w t 12 0) (p1 : Int32) (p2 : Int32) (M : Mem) : Ct l w yX12_cribOf prog_14_method_107_code 8 (Option.some FieldType.long) 6 151 evJM emM [.ref t, .int p1, .int p2] M (FX12_cribOf t p1 p2 M) := by
  refine ct_of (by decide) (Nat.le_of_ble_eq_true rfl) (fun x hl hx hb hz => ?_)
  subst hl
  have hd : ∀ i, DAt (xc x).code (tbX12_cribOf[i]?) := fun i => by rw [hb]; exact dat_of dX12_cribOf i
  show C x w (Qn x w evJM emM) 8 0 [(0, .ref t), (1, .int p1), (2, .int p2)] [] M (FX12_cribOf t p1 p2 M)
  unfold FX12_cribOf
  refine r_aload_n (pc' := 1) hx (hd 0) rfl 0 rfl rfl ?_
  refine r_iconst (pc' := 2) (v := 0) hx (hd 1) (by decide) rfl ?_
  refine r_putI (pc' := 5) hx (hd 2) fp_12_188 ht rfl (by decide) rfl (fun M1 => ?_)
  refine r_iload_n (pc' := 6) hx (hd 3) rfl 1 rfl rfl ?_
  refine r_callS (pc' := 9) (As := [.int p1]) (rest := []) hx (hd 4) md_X12_isCard mst_X12_isCard ml_12_217 (cX12_isCard (xl x) w hL p1 M1) ⟨Nat.le_of_ble_eq_true rfl, Nat.le_of_ble_eq_true rfl⟩ rfl rfl (Nat.le_of_ble_eq_true rfl) (fun r2 => .int r2 :: []) (fun _ => M1) (fun _ => ⟨rfl, rfl⟩) rfl (fun r2 _ => ?_)
  refine r_jn0 24 ([]) ([]) (M1) (?_) (fun j3 hj4 => ?_)
  · skip
    refine r_ldc2 (pc' := 27) hx (hd 12) kc_12_297 rfl ?_
    exact r_lret hx (hd 13) rfl rfl hz
  refine r_if_eq (tgt := 24) (pc' := 12) hx (hd 5) (by decide) (fun _ => ?_) rfl (fun _ => ?_)
  · skip
    refine r_sub [] rfl ?_
    exact hj4
  · skip
    refine r_iload_n (pc' := 13) hx (hd 6) rfl 2 rfl rfl ?_
    refine r_callS (pc' := 16) (As := [.int p2]) (rest := []) hx (hd 7) md_X12_isCard mst_X12_isCard ml_12_217 (cX12_isCard (xl x) w hL p2 M1) ⟨Nat.le_of_ble_eq_true rfl, Nat.le_of_ble_eq_true rfl⟩ rfl rfl (Nat.le_of_ble_eq_true rfl) (fun r5 => .int r5 :: []) (fun _ => M1) (fun _ => ⟨rfl, rfl⟩) rfl (fun r5 _ => ?_)
    refine r_if_eq (tgt := 24) (pc' := 19) hx (hd 8) (by decide) (fun _ => ?_) rfl (fun _ => ?_)
    · skip
      refine r_sub [] rfl ?_
      exact hj4
    · skip
      refine r_iload_n (pc' := 20) hx (hd 9) rfl 1 rfl rfl ?_
      refine r_iload_n (pc' := 21) hx (hd 10) rfl 2 rfl rfl ?_
      refine r_icmp_ne (tgt := 28) (pc' := 24) hx (hd 11) (by decide) (fun _ => ?_) rfl (fun _ => ?_)
      · skip
        refine r_aload_n (pc' := 29) hx (hd 14) rfl 0 rfl rfl ?_
        refine r_iconst (pc' := 30) (v := 1) hx (hd 15) (by decide) rfl ?_
        refine r_callVU (pc' := 33) (As := [.int 1]) (rest := []) hx (hd 16) md_X12_layCounts mi_X12_layCounts ms_X12_layCounts ml_12_481 (cX12_layCounts (xl x) w hL t ht 1 M1) ht rfl (by decide) ⟨Nat.le_of_ble_eq_true rfl, Nat.le_of_ble_eq_true rfl⟩ rfl rfl (Nat.le_of_ble_eq_true rfl) rfl (fun M6 => ?_)
        refine r_aload_n (pc' := 34) hx (hd 17) rfl 0 rfl rfl ?_
        refine r_get (pc' := 37) (v := .ref (t + 27)) hx (hd 18) fl_12_134 ht rfl (by decide) rfl ?_
        have h7 := hL.1 _ _ _ ht 47 27 20 5 rfl
        refine r_iconst (pc' := 38) (v := 0) hx (hd 19) (by decide) rfl ?_
        refine r_iload_n (pc' := 39) hx (hd 20) rfl 1 rfl rfl ?_
        refine r_iast (pc' := 40) (k := 0) hx (hd 21) h7 (by decide) (by decide) rfl (fun M8 => ?_)
        refine r_aload_n (pc' := 41) hx (hd 22) rfl 0 rfl rfl ?_
        refine r_get (pc' := 44) (v := .ref (t + 27)) hx (hd 23) fl_12_134 ht rfl (by decide) rfl ?_
        have h9 := hL.1 _ _ _ ht 47 27 20 5 rfl
        refine r_iconst (pc' := 45) (v := 1) hx (hd 24) (by decide) rfl ?_
        refine r_iload_n (pc' := 46) hx (hd 25) rfl 2 rfl rfl ?_
        refine r_iast (pc' := 47) (k := 1) hx (hd 26) h9 (by decide) (by decide) rfl (fun M10 => ?_)
        refine r_lconst (pc' := 48) (v := 0) hx (hd 27) (by decide) rfl ?_
        refine r_lstore_n (pc' := 49) (L' := [(3, .long 0), (0, .ref t), (1, .int p1), (2, .int p2)]) hx (hd 28) rfl (by decide) rfl rfl ?_
        refine r_iconst (pc' := 50) (v := 0) hx (hd 29) (by decide) rfl ?_
        refine r_istore (pc' := 52) (L' := [(5, .int 0), (3, .long 0), (0, .ref t), (1, .int p1), (2, .int p2)]) hx (hd 30) (by decide) rfl rfl ?_
        refine r_sub [2, 3, 4, 1, 0] rfl ?_
        refine r_wl3 (fun v11 v12 M13 => [(0, .ref t), (1, .int p1), (2, .int p2), (3, .long v11), (5, .int v12)]) (fun v11 v12 M13 => []) (fun v11 v12 M13 => M13) (fun v11 v12 M13 rec14 ih15 => ?_) fuel 0 0 M10
        refine r_iload (pc' := 54) hx (hd 31) 4 rfl rfl ?_
        refine r_bipush (pc' := 56) (v := 52) hx (hd 32) (by decide) rfl ?_
        refine r_icmp_ge (tgt := 177) (pc' := 59) hx (hd 33) (by decide) (fun _ => ?_) rfl (fun _ => ?_)
        · skip
          refine r_lload_n (pc' := 178) hx (hd 96) rfl 3 rfl rfl ?_
          exact r_lret hx (hd 97) rfl rfl hz
        · skip
          refine r_iconst (pc' := 60) (v := 0) hx (hd 34) (by decide) rfl ?_
          refine r_istore (pc' := 62) (L' := [(6, .int 0), (0, .ref t), (1, .int p1), (2, .int p2), (3, .long v11), (5, .int v12)]) hx (hd 35) (by decide) rfl rfl ?_
          refine r_sub [1, 2, 3, 4, 5, 0] rfl ?_
          refine r_wl3 (fun v16 v17 M18 => [(0, .ref t), (1, .int p1), (2, .int p2), (3, .long v16), (5, .int v12), (6, .int v17)]) (fun v16 v17 M18 => []) (fun v16 v17 M18 => M18) (fun v16 v17 M18 rec19 ih20 => ?_) fuel v11 0 M13
          refine r_iload (pc' := 64) hx (hd 36) 5 rfl rfl ?_
          refine r_iload (pc' := 66) hx (hd 37) 4 rfl rfl ?_
          refine r_jn0 171 ([(0, .ref t), (1, .int p1), (2, .int p2), (3, .long v16), (5, .int v12)]) ([]) (M18) (?_) (fun j21 hj22 => ?_)
          · skip
            refine r_iinc (pc' := 174) (v := 1) hx (hd 94) 4 rfl (by decide) (by decide) (fun v23 => [(5, .int v23), (0, .ref t), (1, .int p1), (2, .int p2), (3, .long v16)]) (fun _ => rfl) rfl (fun v23 => ?_)
            refine r_goto (tgt := 52) hx (hd 95) (by decide) ?_
            refine r_sub [1, 2, 3, 4, 0] rfl ?_
            exact ih15 v16 v23 M18
          refine r_icmp_ge (tgt := 171) (pc' := 69) hx (hd 38) (by decide) (fun _ => ?_) rfl (fun _ => ?_)
          · skip
            refine r_sub [0, 1, 2, 3, 4] rfl ?_
            exact hj22
          · skip
            refine r_aload_n (pc' := 70) hx (hd 39) rfl 0 rfl rfl ?_
            refine r_iload (pc' := 72) hx (hd 40) 4 rfl rfl ?_
            refine r_iload_n (pc' := 73) hx (hd 41) rfl 1 rfl rfl ?_
            refine r_iload_n (pc' := 74) hx (hd 42) rfl 2 rfl rfl ?_
            refine r_callV (pc' := 77) (As := [.int v12, .int p1, .int p2]) (rest := []) hx (hd 43) md_X12_isFree mi_X12_isFree ms_X12_isFree ml_12_574 (cX12_isFree (xl x) w hL t ht v12 p1 p2 M18) ht rfl (by decide) ⟨Nat.le_of_ble_eq_true rfl, Nat.le_of_ble_eq_true rfl⟩ rfl rfl (Nat.le_of_ble_eq_true rfl) (fun r24 => .int r24 :: []) (fun _ => M18) (fun _ => ⟨rfl, rfl⟩) rfl (fun r24 _ => ?_)
            refine r_if_eq (tgt := 171) (pc' := 80) hx (hd 44) (by decide) (fun _ => ?_) rfl (fun _ => ?_)
            · skip
              refine r_sub [0, 1, 2, 3, 4] rfl ?_
              exact hj22
            · skip
              refine r_iconst (pc' := 81) (v := 0) hx (hd 45) (by decide) rfl ?_
              refine r_istore (pc' := 83) (L' := [(7, .int 0), (0, .ref t), (1, .int p1), (2, .int p2), (3, .long v16), (5, .int v12), (6, .int v17)]) hx (hd 46) (by decide) rfl rfl ?_
              refine r_sub [1, 2, 3, 4, 5, 6, 0] rfl ?_
              refine r_wl3 (fun v25 v26 M27 => [(0, .ref t), (1, .int p1), (2, .int p2), (3, .long v25), (5, .int v12), (6, .int v17), (7, .int v26)]) (fun v25 v26 M27 => []) (fun v25 v26 M27 => M27) (fun v25 v26 M27 rec28 ih29 => ?_) fuel v16 0 M18
              refine r_iload (pc' := 85) hx (hd 47) 6 rfl rfl ?_
              refine r_bipush (pc' := 87) (v := 52) hx (hd 48) (by decide) rfl ?_
              refine r_jn0 165 ([(0, .ref t), (1, .int p1), (2, .int p2), (3, .long v25), (5, .int v12), (6, .int v17)]) ([]) (M27) (?_) (fun j30 hj31 => ?_)
              · skip
                refine r_iinc (pc' := 168) (v := 1) hx (hd 92) 5 rfl (by decide) (by decide) (fun v32 => [(6, .int v32), (0, .ref t), (1, .int p1), (2, .int p2), (3, .long v25), (5, .int v12)]) (fun _ => rfl) rfl (fun v32 => ?_)
                refine r_goto (tgt := 62) hx (hd 93) (by decide) ?_
                refine r_sub [1, 2, 3, 4, 5, 0] rfl ?_
                exact ih20 v25 v32 M27
              refine r_icmp_ge (tgt := 165) (pc' := 90) hx (hd 49) (by decide) (fun _ => ?_) rfl (fun _ => ?_)
              · skip
                refine r_sub [0, 1, 2, 3, 4, 5] rfl ?_
                exact hj31
              · skip
                refine r_aload_n (pc' := 91) hx (hd 50) rfl 0 rfl rfl ?_
                refine r_iload (pc' := 93) hx (hd 51) 5 rfl rfl ?_
                refine r_iload_n (pc' := 94) hx (hd 52) rfl 1 rfl rfl ?_
                refine r_iload_n (pc' := 95) hx (hd 53) rfl 2 rfl rfl ?_
                refine r_callV (pc' := 98) (As := [.int v17, .int p1, .int p2]) (rest := []) hx (hd 54) md_X12_isFree mi_X12_isFree ms_X12_isFree ml_12_574 (cX12_isFree (xl x) w hL t ht v17 p1 p2 M27) ht rfl (by decide) ⟨Nat.le_of_ble_eq_true rfl, Nat.le_of_ble_eq_true rfl⟩ rfl rfl (Nat.le_of_ble_eq_true rfl) (fun r33 => .int r33 :: []) (fun _ => M27) (fun _ => ⟨rfl, rfl⟩) rfl (fun r33 _ => ?_)
                refine r_if_eq (tgt := 165) (pc' := 101) hx (hd 55) (by decide) (fun _ => ?_) rfl (fun _ => ?_)
                · skip
                  refine r_sub [0, 1, 2, 3, 4, 5] rfl ?_
                  exact hj31
                · skip
                  refine r_iload (pc' := 103) hx (hd 56) 6 rfl rfl ?_
                  refine r_iload (pc' := 105) hx (hd 57) 4 rfl rfl ?_
                  refine r_jn2 159 (fun v34 M35 => [(0, .ref t), (1, .int p1), (2, .int p2), (3, .long v34), (5, .int v12), (6, .int v17), (7, .int v26)]) (fun v34 M35 => []) (fun v34 M35 => M35) (fun v34 M35 => ?_) (fun j36 hj37 => ?_)
                  · skip
                    refine r_iinc (pc' := 162) (v := 1) hx (hd 90) 6 rfl (by decide) (by decide) (fun v38 => [(7, .int v38), (0, .ref t), (1, .int p1), (2, .int p2), (3, .long v34), (5, .int v12), (6, .int v17)]) (fun _ => rfl) rfl (fun v38 => ?_)
                    refine r_goto (tgt := 83) hx (hd 91) (by decide) ?_
                    refine r_sub [1, 2, 3, 4, 5, 6, 0] rfl ?_
                    exact ih29 v34 v38 M35
                  refine r_icmp_eq (tgt := 159) (pc' := 108) hx (hd 58) (by decide) (fun _ => ?_) rfl (fun _ => ?_)
                  · skip
                    exact hj37 v25 M27
                  · skip
                    refine r_iload (pc' := 110) hx (hd 59) 6 rfl rfl ?_
                    refine r_iload (pc' := 112) hx (hd 60) 5 rfl rfl ?_
                    refine r_icmp_eq (tgt := 159) (pc' := 115) hx (hd 61) (by decide) (fun _ => ?_) rfl (fun _ => ?_)
                    · skip
                      exact hj37 v25 M27
                    · skip
                      refine r_aload_n (pc' := 116) hx (hd 62) rfl 0 rfl rfl ?_
                      refine r_iload (pc' := 118) hx (hd 63) 6 rfl rfl ?_
                      refine r_iload_n (pc' := 119) hx (hd 64) rfl 1 rfl rfl ?_
                      refine r_iload_n (pc' := 120) hx (hd 65) rfl 2 rfl rfl ?_
                      refine r_callV (pc' := 123) (As := [.int v26, .int p1, .int p2]) (rest := []) hx (hd 66) md_X12_isFree mi_X12_isFree ms_X12_isFree ml_12_574 (cX12_isFree (xl x) w hL t ht v26 p1 p2 M27) ht rfl (by decide) ⟨Nat.le_of_ble_eq_true rfl, Nat.le_of_ble_eq_true rfl⟩ rfl rfl (Nat.le_of_ble_eq_true rfl) (fun r39 => .int r39 :: []) (fun _ => M27) (fun _ => ⟨rfl, rfl⟩) rfl (fun r39 _ => ?_)
                      refine r_if_eq (tgt := 159) (pc' := 126) hx (hd 67) (by decide) (fun _ => ?_) rfl (fun _ => ?_)
                      · skip
                        exact hj37 v25 M27
                      · skip
                        refine r_aload_n (pc' := 127) hx (hd 68) rfl 0 rfl rfl ?_
                        refine r_get (pc' := 130) (v := .ref (t + 27)) hx (hd 69) fl_12_134 ht rfl (by decide) rfl ?_
                        have h40 := hL.1 _ _ _ ht 47 27 20 5 rfl
                        refine r_iconst (pc' := 131) (v := 2) hx (hd 70) (by decide) rfl ?_
                        refine r_iload (pc' := 133) hx (hd 71) 4 rfl rfl ?_
                        refine r_iast (pc' := 134) (k := 2) hx (hd 72) h40 (by decide) (by decide) rfl (fun M41 => ?_)
                        refine r_aload_n (pc' := 135) hx (hd 73) rfl 0 rfl rfl ?_
                        refine r_get (pc' := 138) (v := .ref (t + 27)) hx (hd 74) fl_12_134 ht rfl (by decide) rfl ?_
                        have h42 := hL.1 _ _ _ ht 47 27 20 5 rfl
                        refine r_iconst (pc' := 139) (v := 3) hx (hd 75) (by decide) rfl ?_
                        refine r_iload (pc' := 141) hx (hd 76) 5 rfl rfl ?_
                        refine r_iast (pc' := 142) (k := 3) hx (hd 77) h42 (by decide) (by decide) rfl (fun M43 => ?_)
                        refine r_aload_n (pc' := 143) hx (hd 78) rfl 0 rfl rfl ?_
                        refine r_get (pc' := 146) (v := .ref (t + 27)) hx (hd 79) fl_12_134 ht rfl (by decide) rfl ?_
                        have h44 := hL.1 _ _ _ ht 47 27 20 5 rfl
                        refine r_iconst (pc' := 147) (v := 4) hx (hd 80) (by decide) rfl ?_
                        refine r_iload (pc' := 149) hx (hd 81) 6 rfl rfl ?_
                        refine r_iast (pc' := 150) (k := 4) hx (hd 82) h44 (by decide) (by decide) rfl (fun M45 => ?_)
                        refine r_lload_n (pc' := 151) hx (hd 83) rfl 3 rfl rfl ?_
                        refine r_aload_n (pc' := 152) hx (hd 84) rfl 0 rfl rfl ?_
                        refine r_iconst (pc' := 153) (v := 1) hx (hd 85) (by decide) rfl ?_
                        refine r_callVI (pc' := 156) (As := [.int 1]) (rest := [.long v25]) hx (hd 86) md_X12_countFive mi_X12_countFive ms_X12_countFive ml_12_484 (cX12_countFive (xl x) w hL t ht 1 M45) ht rfl (by decide) ⟨Nat.le_of_ble_eq_true rfl, Nat.le_of_ble_eq_true rfl⟩ rfl rfl (Nat.le_of_ble_eq_true rfl) (fun r47 => .int r47 :: [.long v25]) (fun _ => rfl) rfl (fun r47 M46 => ?_)
                        refine r_i2l (pc' := 157) hx (hd 87) rfl ?_
                        refine r_ladd (pc' := 158) hx (hd 88) rfl ?_
                        refine r_nmJ (fun v48 => ?_)
                        refine r_lstore_n (pc' := 159) (L' := [(3, .long v48), (0, .ref t), (1, .int p1), (2, .int p2), (5, .int v12), (6, .int v17), (7, .int v26)]) hx (hd 89) rfl (by decide) rfl rfl ?_
                        refine r_sub [1, 2, 3, 0, 4, 5, 6] rfl ?_
                        exact hj37 v48 M46
      · skip
        refine r_sub [] rfl ?_
        exact hj4
abbrev yX12_byStarters : MethodName := ({ cls := "CribbageRoomModel", name := "byStarters", desc := "(I)I" } : Jvm.MethodName)
def tbX12_byStarters : List (Nat × Instr × Nat) := [(0, .aload_n 0, 1), (1, .iconst 0, 1), (2, .putfield 188, 3), (5, .aload_n 0, 1), (6, .invokevirtual 554, 3), (9, .iconst 4, 1), (10, .if_icmp .ne 15, 3), (13, .iload_n 1, 1), (14, .i2l, 1), (15, .lconst 0, 1), (16, .ldc2_w 242, 3), (19, .invokestatic 208, 3), (22, .ifCond .ne 5, 3), (25, .iconst (-1), 1), (26, .ireturn, 1), (27, .aload_n 0, 1), (28, .invokevirtual 563, 3), (31, .aload_n 0, 1), (32, .iconst 0, 1), (33, .invokevirtual 481, 3), (36, .iconst 0, 1), (37, .istore_n 2, 1), (38, .iconst 0, 1), (39, .istore_n 3, 1), (40, .iload_n 3, 1), (41, .bipush 52, 2), (43, .if_icmp .ge 41, 3), (46, .aload_n 0, 1), (47, .getfield 134, 3), (50, .iconst 4, 1), (51, .iload_n 3, 1), (52, .iastore, 1), (53, .iload_n 2, 1), (54, .aload_n 0, 1), (55, .iload_n 3, 1), (56, .invokevirtual 261, 3), (59, .ifCond .ne 16, 3), (62, .aload_n 0, 1), (63, .iconst 0, 1), (64, .invokevirtual 484, 3), (67, .iload_n 1, 1), (68, .if_icmp .lt 7, 3), (71, .iconst 1, 1), (72, .goto 4, 3), (75, .iconst 0, 1), (76, .iadd, 1), (77, .istore_n 2, 1), (78, .iinc 3 1, 3), (81, .goto (-41), 3), (84, .iload_n 2, 1), (85, .ireturn, 1)]
theorem dX12_byStarters : ∀ q ∈ tbX12_byStarters, decode prog_14_method_109_code q.1 = .ok q.2 := by decide +kernel
set_option maxRecDepth 20000 in
theorem cX12_byStarters (l : Launch) (w : WX) (hL : Lay w) (t : Nat) (ht : Wat w t 12 0) (p1 : Int32) (M : Mem) : Ct l w yX12_byStarters prog_14_method_109_code 4 (Option.some FieldType.int) 6 151 evIM emM [.ref t, .int p1] M (FX12_byStarters t p1 M) := by
  refine ct_of (by decide) (Nat.le_of_ble_eq_true rfl) (fun x hl hx hb hz => ?_)
  subst hl
  have hd : ∀ i, DAt (xc x).code (tbX12_byStarters[i]?) := fun i => by rw [hb]; exact dat_of dX12_byStarters i
  show C x w (Qn x w evIM emM) 4 0 [(0, .ref t), (1, .int p1)] [] M (FX12_byStarters t p1 M)
  unfold FX12_byStarters
  refine r_aload_n (pc' := 1) hx (hd 0) rfl 0 rfl rfl ?_
  refine r_iconst (pc' := 2) (v := 0) hx (hd 1) (by decide) rfl ?_
  refine r_putI (pc' := 5) hx (hd 2) fp_12_188 ht rfl (by decide) rfl (fun M1 => ?_)
  refine r_aload_n (pc' := 6) hx (hd 3) rfl 0 rfl rfl ?_
  refine r_callV (pc' := 9) (As := []) (rest := []) hx (hd 4) md_X12_heldOnes mi_X12_heldOnes ms_X12_heldOnes ml_12_554 (cX12_heldOnes (xl x) w hL t ht M1) ht rfl (by decide) ⟨Nat.le_of_ble_eq_true rfl, Nat.le_of_ble_eq_true rfl⟩ rfl rfl (Nat.le_of_ble_eq_true rfl) (fun r2 => .int r2 :: []) (fun _ => M1) (fun _ => ⟨rfl, rfl⟩) rfl (fun r2 _ => ?_)
  refine r_iconst (pc' := 10) (v := 4) hx (hd 5) (by decide) rfl ?_
  refine r_jn0 25 ([]) ([]) (M1) (?_) (fun j3 hj4 => ?_)
  · skip
    refine r_iconst (pc' := 26) (v := (-1)) hx (hd 13) (by decide) rfl ?_
    exact r_iret hx (hd 14) rfl rfl hz
  refine r_icmp_ne (tgt := 25) (pc' := 13) hx (hd 6) (by decide) (fun _ => ?_) rfl (fun _ => ?_)
  · skip
    refine r_sub [] rfl ?_
    exact hj4
  · skip
    refine r_iload_n (pc' := 14) hx (hd 7) rfl 1 rfl rfl ?_
    refine r_i2l (pc' := 15) hx (hd 8) rfl ?_
    refine r_lconst (pc' := 16) (v := 0) hx (hd 9) (by decide) rfl ?_
    refine r_ldc2 (pc' := 19) hx (hd 10) kc_12_242 rfl ?_
    refine r_callS (pc' := 22) (As := [.long p1.toInt64, .long 0, .long 999]) (rest := []) hx (hd 11) md_X12_in mst_X12_in ml_12_208 (cX12_in (xl x) w hL (p1.toInt64) 0 999 M1) ⟨Nat.le_of_ble_eq_true rfl, Nat.le_of_ble_eq_true rfl⟩ rfl rfl (Nat.le_of_ble_eq_true rfl) (fun r5 => .int r5 :: []) (fun _ => M1) (fun _ => ⟨rfl, rfl⟩) rfl (fun r5 _ => ?_)
    refine r_if_ne (tgt := 27) (pc' := 25) hx (hd 12) (by decide) (fun _ => ?_) rfl (fun _ => ?_)
    · skip
      refine r_aload_n (pc' := 28) hx (hd 15) rfl 0 rfl rfl ?_
      refine r_callVU (pc' := 31) (As := []) (rest := []) hx (hd 16) md_X12_takeHeld mi_X12_takeHeld ms_X12_takeHeld ml_12_563 (cX12_takeHeld (xl x) w hL t ht M1) ht rfl (by decide) ⟨Nat.le_of_ble_eq_true rfl, Nat.le_of_ble_eq_true rfl⟩ rfl rfl (Nat.le_of_ble_eq_true rfl) rfl (fun M6 => ?_)
      refine r_aload_n (pc' := 32) hx (hd 17) rfl 0 rfl rfl ?_
      refine r_iconst (pc' := 33) (v := 0) hx (hd 18) (by decide) rfl ?_
      refine r_callVU (pc' := 36) (As := [.int 0]) (rest := []) hx (hd 19) md_X12_layCounts mi_X12_layCounts ms_X12_layCounts ml_12_481 (cX12_layCounts (xl x) w hL t ht 0 M6) ht rfl (by decide) ⟨Nat.le_of_ble_eq_true rfl, Nat.le_of_ble_eq_true rfl⟩ rfl rfl (Nat.le_of_ble_eq_true rfl) rfl (fun M7 => ?_)
      refine r_iconst (pc' := 37) (v := 0) hx (hd 20) (by decide) rfl ?_
      refine r_istore_n (pc' := 38) (L' := [(2, .int 0), (0, .ref t), (1, .int p1)]) hx (hd 21) rfl (by decide) rfl rfl ?_
      refine r_iconst (pc' := 39) (v := 0) hx (hd 22) (by decide) rfl ?_
      refine r_istore_n (pc' := 40) (L' := [(3, .int 0), (2, .int 0), (0, .ref t), (1, .int p1)]) hx (hd 23) rfl (by decide) rfl rfl ?_
      refine r_sub [2, 3, 1, 0] rfl ?_
      refine r_wl3 (fun v8 v9 M10 => [(0, .ref t), (1, .int p1), (2, .int v8), (3, .int v9)]) (fun v8 v9 M10 => []) (fun v8 v9 M10 => M10) (fun v8 v9 M10 rec11 ih12 => ?_) fuel 0 0 M7
      refine r_iload_n (pc' := 41) hx (hd 24) rfl 3 rfl rfl ?_
      refine r_bipush (pc' := 43) (v := 52) hx (hd 25) (by decide) rfl ?_
      refine r_icmp_ge (tgt := 84) (pc' := 46) hx (hd 26) (by decide) (fun _ => ?_) rfl (fun _ => ?_)
      · skip
        refine r_iload_n (pc' := 85) hx (hd 49) rfl 2 rfl rfl ?_
        exact r_iret hx (hd 50) rfl rfl hz
      · skip
        refine r_aload_n (pc' := 47) hx (hd 27) rfl 0 rfl rfl ?_
        refine r_get (pc' := 50) (v := .ref (t + 27)) hx (hd 28) fl_12_134 ht rfl (by decide) rfl ?_
        have h13 := hL.1 _ _ _ ht 47 27 20 5 rfl
        refine r_iconst (pc' := 51) (v := 4) hx (hd 29) (by decide) rfl ?_
        refine r_iload_n (pc' := 52) hx (hd 30) rfl 3 rfl rfl ?_
        refine r_iast (pc' := 53) (k := 4) hx (hd 31) h13 (by decide) (by decide) rfl (fun M14 => ?_)
        refine r_iload_n (pc' := 54) hx (hd 32) rfl 2 rfl rfl ?_
        refine r_aload_n (pc' := 55) hx (hd 33) rfl 0 rfl rfl ?_
        refine r_iload_n (pc' := 56) hx (hd 34) rfl 3 rfl rfl ?_
        refine r_callV (pc' := 59) (As := [.int v9]) (rest := [.int v8]) hx (hd 35) md_X12_isHeld mi_X12_isHeld ms_X12_isHeld ml_12_261 (cX12_isHeld (xl x) w hL t ht v9 M14) ht rfl (by decide) ⟨Nat.le_of_ble_eq_true rfl, Nat.le_of_ble_eq_true rfl⟩ rfl rfl (Nat.le_of_ble_eq_true rfl) (fun r15 => .int r15 :: [.int v8]) (fun _ => M14) (fun _ => ⟨rfl, rfl⟩) rfl (fun r15 _ => ?_)
        refine r_jn2 76 (fun v16 M17 => [(0, .ref t), (1, .int p1), (3, .int v9)]) (fun v16 M17 => [.int v16, .int v8]) (fun v16 M17 => M17) (fun v16 M17 => ?_) (fun j18 hj19 => ?_)
        · skip
          refine r_iadd (pc' := 77) hx (hd 45) rfl ?_
          refine r_nmI (fun v20 => ?_)
          refine r_istore_n (pc' := 78) (L' := [(2, .int v20), (0, .ref t), (1, .int p1), (3, .int v9)]) hx (hd 46) rfl (by decide) rfl rfl ?_
          refine r_iinc (pc' := 81) (v := 1) hx (hd 47) 3 rfl (by decide) (by decide) (fun v21 => [(3, .int v21), (2, .int v20), (0, .ref t), (1, .int p1)]) (fun _ => rfl) rfl (fun v21 => ?_)
          refine r_goto (tgt := 40) hx (hd 48) (by decide) ?_
          refine r_sub [2, 3, 1, 0] rfl ?_
          exact ih12 v20 v21 M17
        refine r_jn1 75 (fun M22 => [(0, .ref t), (1, .int p1), (3, .int v9)]) (fun M22 => [.int v8]) (fun M22 => M22) (fun M22 => ?_) (fun j23 hj24 => ?_)
        · skip
          refine r_iconst (pc' := 76) (v := 0) hx (hd 44) (by decide) rfl ?_
          exact hj19 0 M22
        refine r_if_ne (tgt := 75) (pc' := 62) hx (hd 36) (by decide) (fun _ => ?_) rfl (fun _ => ?_)
        · skip
          refine r_sub [0, 1, 3] rfl ?_
          exact hj24 M14
        · skip
          refine r_aload_n (pc' := 63) hx (hd 37) rfl 0 rfl rfl ?_
          refine r_iconst (pc' := 64) (v := 0) hx (hd 38) (by decide) rfl ?_
          refine r_callVI (pc' := 67) (As := [.int 0]) (rest := [.int v8]) hx (hd 39) md_X12_countFive mi_X12_countFive ms_X12_countFive ml_12_484 (cX12_countFive (xl x) w hL t ht 0 M14) ht rfl (by decide) ⟨Nat.le_of_ble_eq_true rfl, Nat.le_of_ble_eq_true rfl⟩ rfl rfl (Nat.le_of_ble_eq_true rfl) (fun r26 => .int r26 :: [.int v8]) (fun _ => rfl) rfl (fun r26 M25 => ?_)
          refine r_iload_n (pc' := 68) hx (hd 40) rfl 1 rfl rfl ?_
          refine r_icmp_lt (tgt := 75) (pc' := 71) hx (hd 41) (by decide) (fun _ => ?_) rfl (fun _ => ?_)
          · skip
            refine r_sub [0, 1, 3] rfl ?_
            exact hj24 M25
          · skip
            refine r_iconst (pc' := 72) (v := 1) hx (hd 42) (by decide) rfl ?_
            refine r_goto (tgt := 76) hx (hd 43) (by decide) ?_
            refine r_sub [0, 1, 3] rfl ?_
            exact hj19 1 M25
    · skip
      refine r_sub [] rfl ?_
      exact hj4
abbrev yX12_bestStarter : MethodName := ({ cls := "CribbageRoomModel", name := "bestStarter", desc := "(I)I" } : Jvm.MethodName)
def tbX12_bestStarter : List (Nat × Instr × Nat) := [(0, .aload_n 0, 1), (1, .iconst 0, 1), (2, .putfield 188, 3), (5, .aload_n 0, 1), (6, .invokevirtual 554, 3), (9, .iconst 4, 1), (10, .if_icmp .ne 13, 3), (13, .iload_n 1, 1), (14, .i2l, 1), (15, .lconst 0, 1), (16, .lconst 1, 1), (17, .invokestatic 208, 3), (20, .ifCond .ne 5, 3), (23, .iconst (-1), 1), (24, .ireturn, 1), (25, .aload_n 0, 1), (26, .invokevirtual 563, 3), (29, .aload_n 0, 1), (30, .iconst 0, 1), (31, .invokevirtual 481, 3), (34, .iconst (-1), 1), (35, .istore_n 2, 1), (36, .iconst (-1), 1), (37, .istore_n 3, 1), (38, .iconst 0, 1), (39, .istore 4, 2), (41, .iload 4, 2), (43, .bipush 52, 2), (45, .if_icmp .ge 63, 3), (48, .aload_n 0, 1), (49, .getfield 134, 3), (52, .iconst 4, 1), (53, .iload 4, 2), (55, .iastore, 1), (56, .aload_n 0, 1), (57, .iload 4, 2), (59, .invokevirtual 261, 3), (62, .ifCond .eq 7, 3), (65, .iconst (-1), 1), (66, .goto 8, 3), (69, .aload_n 0, 1), (70, .iconst 0, 1), (71, .invokevirtual 484, 3), (74, .istore 5, 2), (76, .iload 5, 2), (78, .iload_n 2, 1), (79, .if_icmp .le 8, 3), (82, .iload 4, 2), (84, .goto 4, 3), (87, .iload_n 3, 1), (88, .istore_n 3, 1), (89, .iload 5, 2), (91, .iload_n 2, 1), (92, .if_icmp .le 8, 3), (95, .iload 5, 2), (97, .goto 4, 3), (100, .iload_n 2, 1), (101, .istore_n 2, 1), (102, .iinc 4 1, 3), (105, .goto (-64), 3), (108, .iload_n 1, 1), (109, .ifCond .ne 7, 3), (112, .iload_n 3, 1), (113, .goto 4, 3), (116, .iload_n 2, 1), (117, .ireturn, 1)]
theorem dX12_bestStarter : ∀ q ∈ tbX12_bestStarter, decode prog_14_method_110_code q.1 = .ok q.2 := by decide +kernel
set_option maxRecDepth 20000 in
theorem cX12_bestStarter (l : Launch) (w : WX) (hL : Lay w) (t : Nat) (ht : Wat w t 12 0) (p1 : Int32) (M : Mem) : Ct l w yX12_bestStarter prog_14_method_110_code 6 (Option.some FieldType.int) 6 151 evIM emM [.ref t, .int p1] M (FX12_bestStarter t p1 M) := by
  refine ct_of (by decide) (Nat.le_of_ble_eq_true rfl) (fun x hl hx hb hz => ?_)
  subst hl
  have hd : ∀ i, DAt (xc x).code (tbX12_bestStarter[i]?) := fun i => by rw [hb]; exact dat_of dX12_bestStarter i
  show C x w (Qn x w evIM emM) 6 0 [(0, .ref t), (1, .int p1)] [] M (FX12_bestStarter t p1 M)
  unfold FX12_bestStarter
  refine r_aload_n (pc' := 1) hx (hd 0) rfl 0 rfl rfl ?_
  refine r_iconst (pc' := 2) (v := 0) hx (hd 1) (by decide) rfl ?_
  refine r_putI (pc' := 5) hx (hd 2) fp_12_188 ht rfl (by decide) rfl (fun M1 => ?_)
  refine r_aload_n (pc' := 6) hx (hd 3) rfl 0 rfl rfl ?_
  refine r_callV (pc' := 9) (As := []) (rest := []) hx (hd 4) md_X12_heldOnes mi_X12_heldOnes ms_X12_heldOnes ml_12_554 (cX12_heldOnes (xl x) w hL t ht M1) ht rfl (by decide) ⟨Nat.le_of_ble_eq_true rfl, Nat.le_of_ble_eq_true rfl⟩ rfl rfl (Nat.le_of_ble_eq_true rfl) (fun r2 => .int r2 :: []) (fun _ => M1) (fun _ => ⟨rfl, rfl⟩) rfl (fun r2 _ => ?_)
  refine r_iconst (pc' := 10) (v := 4) hx (hd 5) (by decide) rfl ?_
  refine r_jn0 23 ([]) ([]) (M1) (?_) (fun j3 hj4 => ?_)
  · skip
    refine r_iconst (pc' := 24) (v := (-1)) hx (hd 13) (by decide) rfl ?_
    exact r_iret hx (hd 14) rfl rfl hz
  refine r_icmp_ne (tgt := 23) (pc' := 13) hx (hd 6) (by decide) (fun _ => ?_) rfl (fun _ => ?_)
  · skip
    refine r_sub [] rfl ?_
    exact hj4
  · skip
    refine r_iload_n (pc' := 14) hx (hd 7) rfl 1 rfl rfl ?_
    refine r_i2l (pc' := 15) hx (hd 8) rfl ?_
    refine r_lconst (pc' := 16) (v := 0) hx (hd 9) (by decide) rfl ?_
    refine r_lconst (pc' := 17) (v := 1) hx (hd 10) (by decide) rfl ?_
    refine r_callS (pc' := 20) (As := [.long p1.toInt64, .long 0, .long 1]) (rest := []) hx (hd 11) md_X12_in mst_X12_in ml_12_208 (cX12_in (xl x) w hL (p1.toInt64) 0 1 M1) ⟨Nat.le_of_ble_eq_true rfl, Nat.le_of_ble_eq_true rfl⟩ rfl rfl (Nat.le_of_ble_eq_true rfl) (fun r5 => .int r5 :: []) (fun _ => M1) (fun _ => ⟨rfl, rfl⟩) rfl (fun r5 _ => ?_)
    refine r_if_ne (tgt := 25) (pc' := 23) hx (hd 12) (by decide) (fun _ => ?_) rfl (fun _ => ?_)
    · skip
      refine r_aload_n (pc' := 26) hx (hd 15) rfl 0 rfl rfl ?_
      refine r_callVU (pc' := 29) (As := []) (rest := []) hx (hd 16) md_X12_takeHeld mi_X12_takeHeld ms_X12_takeHeld ml_12_563 (cX12_takeHeld (xl x) w hL t ht M1) ht rfl (by decide) ⟨Nat.le_of_ble_eq_true rfl, Nat.le_of_ble_eq_true rfl⟩ rfl rfl (Nat.le_of_ble_eq_true rfl) rfl (fun M6 => ?_)
      refine r_aload_n (pc' := 30) hx (hd 17) rfl 0 rfl rfl ?_
      refine r_iconst (pc' := 31) (v := 0) hx (hd 18) (by decide) rfl ?_
      refine r_callVU (pc' := 34) (As := [.int 0]) (rest := []) hx (hd 19) md_X12_layCounts mi_X12_layCounts ms_X12_layCounts ml_12_481 (cX12_layCounts (xl x) w hL t ht 0 M6) ht rfl (by decide) ⟨Nat.le_of_ble_eq_true rfl, Nat.le_of_ble_eq_true rfl⟩ rfl rfl (Nat.le_of_ble_eq_true rfl) rfl (fun M7 => ?_)
      refine r_iconst (pc' := 35) (v := (-1)) hx (hd 20) (by decide) rfl ?_
      refine r_istore_n (pc' := 36) (L' := [(2, .int (-1)), (0, .ref t), (1, .int p1)]) hx (hd 21) rfl (by decide) rfl rfl ?_
      refine r_iconst (pc' := 37) (v := (-1)) hx (hd 22) (by decide) rfl ?_
      refine r_istore_n (pc' := 38) (L' := [(3, .int (-1)), (2, .int (-1)), (0, .ref t), (1, .int p1)]) hx (hd 23) rfl (by decide) rfl rfl ?_
      refine r_iconst (pc' := 39) (v := 0) hx (hd 24) (by decide) rfl ?_
      refine r_istore (pc' := 41) (L' := [(4, .int 0), (3, .int (-1)), (2, .int (-1)), (0, .ref t), (1, .int p1)]) hx (hd 25) (by decide) rfl rfl ?_
      refine r_sub [3, 4, 2, 1, 0] rfl ?_
      refine r_wl4 (fun v8 v9 v10 M11 => [(0, .ref t), (1, .int p1), (2, .int v8), (3, .int v9), (4, .int v10)]) (fun v8 v9 v10 M11 => []) (fun v8 v9 v10 M11 => M11) (fun v8 v9 v10 M11 rec12 ih13 => ?_) fuel (-1) (-1) 0 M7
      refine r_iload (pc' := 43) hx (hd 26) 4 rfl rfl ?_
      refine r_bipush (pc' := 45) (v := 52) hx (hd 27) (by decide) rfl ?_
      refine r_icmp_ge (tgt := 108) (pc' := 48) hx (hd 28) (by decide) (fun _ => ?_) rfl (fun _ => ?_)
      · skip
        refine r_iload_n (pc' := 109) hx (hd 60) rfl 1 rfl rfl ?_
        refine r_jn1 117 (fun v14 => []) (fun v14 => [.int v14]) (fun v14 => M11) (fun v14 => ?_) (fun j15 hj16 => ?_)
        · skip
          exact r_iret hx (hd 65) rfl rfl hz
        refine r_if_ne (tgt := 116) (pc' := 112) hx (hd 61) (by decide) (fun _ => ?_) rfl (fun _ => ?_)
        · skip
          refine r_iload_n (pc' := 117) hx (hd 64) rfl 2 rfl rfl ?_
          refine r_sub [] rfl ?_
          exact hj16 v8
        · skip
          refine r_iload_n (pc' := 113) hx (hd 62) rfl 3 rfl rfl ?_
          refine r_goto (tgt := 117) hx (hd 63) (by decide) ?_
          refine r_sub [] rfl ?_
          exact hj16 v9
      · skip
        refine r_aload_n (pc' := 49) hx (hd 29) rfl 0 rfl rfl ?_
        refine r_get (pc' := 52) (v := .ref (t + 27)) hx (hd 30) fl_12_134 ht rfl (by decide) rfl ?_
        have h17 := hL.1 _ _ _ ht 47 27 20 5 rfl
        refine r_iconst (pc' := 53) (v := 4) hx (hd 31) (by decide) rfl ?_
        refine r_iload (pc' := 55) hx (hd 32) 4 rfl rfl ?_
        refine r_iast (pc' := 56) (k := 4) hx (hd 33) h17 (by decide) (by decide) rfl (fun M18 => ?_)
        refine r_aload_n (pc' := 57) hx (hd 34) rfl 0 rfl rfl ?_
        refine r_iload (pc' := 59) hx (hd 35) 4 rfl rfl ?_
        refine r_callV (pc' := 62) (As := [.int v10]) (rest := []) hx (hd 36) md_X12_isHeld mi_X12_isHeld ms_X12_isHeld ml_12_261 (cX12_isHeld (xl x) w hL t ht v10 M18) ht rfl (by decide) ⟨Nat.le_of_ble_eq_true rfl, Nat.le_of_ble_eq_true rfl⟩ rfl rfl (Nat.le_of_ble_eq_true rfl) (fun r19 => .int r19 :: []) (fun _ => M18) (fun _ => ⟨rfl, rfl⟩) rfl (fun r19 _ => ?_)
        refine r_jn2 74 (fun v20 M21 => [(0, .ref t), (1, .int p1), (2, .int v8), (3, .int v9), (4, .int v10)]) (fun v20 M21 => [.int v20]) (fun v20 M21 => M21) (fun v20 M21 => ?_) (fun j22 hj23 => ?_)
        · skip
          refine r_istore (pc' := 76) (L' := [(5, .int v20), (0, .ref t), (1, .int p1), (2, .int v8), (3, .int v9), (4, .int v10)]) hx (hd 43) (by decide) rfl rfl ?_
          refine r_iload (pc' := 78) hx (hd 44) 0 rfl rfl ?_
          refine r_iload_n (pc' := 79) hx (hd 45) rfl 3 rfl rfl ?_
          refine r_jn1 88 (fun v24 => [(0, .ref t), (1, .int p1), (2, .int v8), (4, .int v10), (5, .int v20)]) (fun v24 => [.int v24]) (fun v24 => M21) (fun v24 => ?_) (fun j25 hj26 => ?_)
          · skip
            refine r_istore_n (pc' := 89) (L' := [(3, .int v24), (0, .ref t), (1, .int p1), (2, .int v8), (4, .int v10), (5, .int v20)]) hx (hd 50) rfl (by decide) rfl rfl ?_
            refine r_iload (pc' := 91) hx (hd 51) 5 rfl rfl ?_
            refine r_iload_n (pc' := 92) hx (hd 52) rfl 3 rfl rfl ?_
            refine r_jn1 101 (fun v27 => [(0, .ref t), (1, .int p1), (3, .int v24), (4, .int v10)]) (fun v27 => [.int v27]) (fun v27 => M21) (fun v27 => ?_) (fun j28 hj29 => ?_)
            · skip
              refine r_istore_n (pc' := 102) (L' := [(2, .int v27), (0, .ref t), (1, .int p1), (3, .int v24), (4, .int v10)]) hx (hd 57) rfl (by decide) rfl rfl ?_
              refine r_iinc (pc' := 105) (v := 1) hx (hd 58) 4 rfl (by decide) (by decide) (fun v30 => [(4, .int v30), (2, .int v27), (0, .ref t), (1, .int p1), (3, .int v24)]) (fun _ => rfl) rfl (fun v30 => ?_)
              refine r_goto (tgt := 41) hx (hd 59) (by decide) ?_
              refine r_sub [2, 3, 1, 4, 0] rfl ?_
              exact ih13 v27 v24 v30 M21
            refine r_icmp_le (tgt := 100) (pc' := 95) hx (hd 53) (by decide) (fun _ => ?_) rfl (fun _ => ?_)
            · skip
              refine r_iload_n (pc' := 101) hx (hd 56) rfl 3 rfl rfl ?_
              refine r_sub [1, 2, 0, 4] rfl ?_
              exact hj29 v8
            · skip
              refine r_iload (pc' := 97) hx (hd 54) 5 rfl rfl ?_
              refine r_goto (tgt := 101) hx (hd 55) (by decide) ?_
              refine r_sub [1, 2, 0, 4] rfl ?_
              exact hj29 v20
          refine r_icmp_le (tgt := 87) (pc' := 82) hx (hd 46) (by decide) (fun _ => ?_) rfl (fun _ => ?_)
          · skip
            refine r_iload_n (pc' := 88) hx (hd 49) rfl 4 rfl rfl ?_
            refine r_sub [1, 2, 3, 5, 0] rfl ?_
            exact hj26 v9
          · skip
            refine r_iload (pc' := 84) hx (hd 47) 5 rfl rfl ?_
            refine r_goto (tgt := 88) hx (hd 48) (by decide) ?_
            refine r_sub [1, 2, 3, 5, 0] rfl ?_
            exact hj26 v10
        refine r_if_eq (tgt := 69) (pc' := 65) hx (hd 37) (by decide) (fun _ => ?_) rfl (fun _ => ?_)
        · skip
          refine r_aload_n (pc' := 70) hx (hd 40) rfl 0 rfl rfl ?_
          refine r_iconst (pc' := 71) (v := 0) hx (hd 41) (by decide) rfl ?_
          refine r_callVI (pc' := 74) (As := [.int 0]) (rest := []) hx (hd 42) md_X12_countFive mi_X12_countFive ms_X12_countFive ml_12_484 (cX12_countFive (xl x) w hL t ht 0 M18) ht rfl (by decide) ⟨Nat.le_of_ble_eq_true rfl, Nat.le_of_ble_eq_true rfl⟩ rfl rfl (Nat.le_of_ble_eq_true rfl) (fun r32 => .int r32 :: []) (fun _ => rfl) rfl (fun r32 M31 => ?_)
          exact hj23 r32 M31
        · skip
          refine r_iconst (pc' := 66) (v := (-1)) hx (hd 38) (by decide) rfl ?_
          refine r_goto (tgt := 74) hx (hd 39) (by decide) ?_
          exact hj23 (-1) M18
    · skip
      refine r_sub [] rfl ?_
      exact hj4
abbrev yX12_compare : MethodName := ({ cls := "CribbageRoomModel", name := "compare", desc := "(II)I" } : Jvm.MethodName)
def tbX12_compare : List (Nat × Instr × Nat) := [(0, .aload_n 0, 1), (1, .iconst 0, 1), (2, .putfield 188, 3), (5, .aload_n 0, 1), (6, .iload_n 1, 1), (7, .invokevirtual 418, 3), (10, .ifCond .eq 11, 3), (13, .aload_n 0, 1), (14, .iload_n 2, 1), (15, .invokevirtual 560, 3), (18, .ifCond .ne 5, 3), (21, .iconst (-1), 1), (22, .ireturn, 1), (23, .aload_n 0, 1), (24, .getfield 13, 3), (27, .iconst 2, 1), (28, .iaload, 1), (29, .istore_n 3, 1), (30, .aload_n 0, 1), (31, .getfield 13, 3), (34, .iconst 2, 1), (35, .iload_n 1, 1), (36, .iastore, 1), (37, .aload_n 0, 1), (38, .iconst 0, 1), (39, .invokevirtual 481, 3), (42, .aload_n 0, 1), (43, .getfield 13, 3), (46, .iconst 2, 1), (47, .iload_n 3, 1), (48, .iastore, 1), (49, .aload_n 0, 1), (50, .invokevirtual 563, 3), (53, .aload_n 0, 1), (54, .getfield 134, 3), (57, .iconst 4, 1), (58, .iload_n 2, 1), (59, .iastore, 1), (60, .aload_n 0, 1), (61, .iconst 0, 1), (62, .invokevirtual 484, 3), (65, .ireturn, 1)]
theorem dX12_compare : ∀ q ∈ tbX12_compare, decode prog_14_method_111_code q.1 = .ok q.2 := by decide +kernel
set_option maxRecDepth 20000 in
theorem cX12_compare (l : Launch) (w : WX) (hL : Lay w) (t : Nat) (ht : Wat w t 12 0) (p1 : Int32) (p2 : Int32) (M : Mem) : Ct l w yX12_compare prog_14_method_111_code 4 (Option.some FieldType.int) 6 151 evIM emM [.ref t, .int p1, .int p2] M (FX12_compare t p1 p2 M) := by
  refine ct_of (by decide) (Nat.le_of_ble_eq_true rfl) (fun x hl hx hb hz => ?_)
  subst hl
  have hd : ∀ i, DAt (xc x).code (tbX12_compare[i]?) := fun i => by rw [hb]; exact dat_of dX12_compare i
  show C x w (Qn x w evIM emM) 4 0 [(0, .ref t), (1, .int p1), (2, .int p2)] [] M (FX12_compare t p1 p2 M)
  unfold FX12_compare
  refine r_aload_n (pc' := 1) hx (hd 0) rfl 0 rfl rfl ?_
  refine r_iconst (pc' := 2) (v := 0) hx (hd 1) (by decide) rfl ?_
  refine r_putI (pc' := 5) hx (hd 2) fp_12_188 ht rfl (by decide) rfl (fun M1 => ?_)
  refine r_aload_n (pc' := 6) hx (hd 3) rfl 0 rfl rfl ?_
  refine r_iload_n (pc' := 7) hx (hd 4) rfl 1 rfl rfl ?_
  refine r_callV (pc' := 10) (As := [.int p1]) (rest := []) hx (hd 5) md_X12_isLaw mi_X12_isLaw ms_X12_isLaw ml_12_418 (cX12_isLaw (xl x) w hL t ht p1 M1) ht rfl (by decide) ⟨Nat.le_of_ble_eq_true rfl, Nat.le_of_ble_eq_true rfl⟩ rfl rfl (Nat.le_of_ble_eq_true rfl) (fun r2 => .int r2 :: []) (fun _ => M1) (fun _ => ⟨rfl, rfl⟩) rfl (fun r2 _ => ?_)
  refine r_jn0 21 ([]) ([]) (M1) (?_) (fun j3 hj4 => ?_)
  · skip
    refine r_iconst (pc' := 22) (v := (-1)) hx (hd 11) (by decide) rfl ?_
    exact r_iret hx (hd 12) rfl rfl hz
  refine r_if_eq (tgt := 21) (pc' := 13) hx (hd 6) (by decide) (fun _ => ?_) rfl (fun _ => ?_)
  · skip
    refine r_sub [] rfl ?_
    exact hj4
  · skip
    refine r_aload_n (pc' := 14) hx (hd 7) rfl 0 rfl rfl ?_
    refine r_iload_n (pc' := 15) hx (hd 8) rfl 2 rfl rfl ?_
    refine r_callV (pc' := 18) (As := [.int p2]) (rest := []) hx (hd 9) md_X12_canCount mi_X12_canCount ms_X12_canCount ml_12_560 (cX12_canCount (xl x) w hL t ht p2 M1) ht rfl (by decide) ⟨Nat.le_of_ble_eq_true rfl, Nat.le_of_ble_eq_true rfl⟩ rfl rfl (Nat.le_of_ble_eq_true rfl) (fun r5 => .int r5 :: []) (fun _ => M1) (fun _ => ⟨rfl, rfl⟩) rfl (fun r5 _ => ?_)
    refine r_if_ne (tgt := 23) (pc' := 21) hx (hd 10) (by decide) (fun _ => ?_) rfl (fun _ => ?_)
    · skip
      refine r_aload_n (pc' := 24) hx (hd 13) rfl 0 rfl rfl ?_
      refine r_get (pc' := 27) (v := .ref (t + 2)) hx (hd 14) fl_12_13 ht rfl (by decide) rfl ?_
      have h6 := hL.1 _ _ _ ht 3 2 20 5594 rfl
      refine r_iconst (pc' := 28) (v := 2) hx (hd 15) (by decide) rfl ?_
      refine r_iald (pc' := 29) (k := 2) hx (hd 16) h6 (by decide) (by decide) rfl ?_
      refine r_nmI (fun v7 => ?_)
      refine r_istore_n (pc' := 30) (L' := [(3, .int v7), (0, .ref t), (1, .int p1), (2, .int p2)]) hx (hd 17) rfl (by decide) rfl rfl ?_
      refine r_aload_n (pc' := 31) hx (hd 18) rfl 1 rfl rfl ?_
      refine r_get (pc' := 34) (v := .ref (t + 2)) hx (hd 19) fl_12_13 ht rfl (by decide) rfl ?_
      have h8 := hL.1 _ _ _ ht 3 2 20 5594 rfl
      refine r_iconst (pc' := 35) (v := 2) hx (hd 20) (by decide) rfl ?_
      refine r_iload_n (pc' := 36) hx (hd 21) rfl 2 rfl rfl ?_
      refine r_iast (pc' := 37) (k := 2) hx (hd 22) h8 (by decide) (by decide) rfl (fun M9 => ?_)
      refine r_aload_n (pc' := 38) hx (hd 23) rfl 1 rfl rfl ?_
      refine r_iconst (pc' := 39) (v := 0) hx (hd 24) (by decide) rfl ?_
      refine r_callVU (pc' := 42) (As := [.int 0]) (rest := []) hx (hd 25) md_X12_layCounts mi_X12_layCounts ms_X12_layCounts ml_12_481 (cX12_layCounts (xl x) w hL t ht 0 M9) ht rfl (by decide) ⟨Nat.le_of_ble_eq_true rfl, Nat.le_of_ble_eq_true rfl⟩ rfl rfl (Nat.le_of_ble_eq_true rfl) rfl (fun M10 => ?_)
      refine r_aload_n (pc' := 43) hx (hd 26) rfl 1 rfl rfl ?_
      refine r_get (pc' := 46) (v := .ref (t + 2)) hx (hd 27) fl_12_13 ht rfl (by decide) rfl ?_
      have h11 := hL.1 _ _ _ ht 3 2 20 5594 rfl
      refine r_iconst (pc' := 47) (v := 2) hx (hd 28) (by decide) rfl ?_
      refine r_iload_n (pc' := 48) hx (hd 29) rfl 0 rfl rfl ?_
      refine r_iast (pc' := 49) (k := 2) hx (hd 30) h11 (by decide) (by decide) rfl (fun M12 => ?_)
      refine r_aload_n (pc' := 50) hx (hd 31) rfl 1 rfl rfl ?_
      refine r_callVU (pc' := 53) (As := []) (rest := []) hx (hd 32) md_X12_takeHeld mi_X12_takeHeld ms_X12_takeHeld ml_12_563 (cX12_takeHeld (xl x) w hL t ht M12) ht rfl (by decide) ⟨Nat.le_of_ble_eq_true rfl, Nat.le_of_ble_eq_true rfl⟩ rfl rfl (Nat.le_of_ble_eq_true rfl) rfl (fun M13 => ?_)
      refine r_aload_n (pc' := 54) hx (hd 33) rfl 1 rfl rfl ?_
      refine r_get (pc' := 57) (v := .ref (t + 27)) hx (hd 34) fl_12_134 ht rfl (by decide) rfl ?_
      have h14 := hL.1 _ _ _ ht 47 27 20 5 rfl
      refine r_iconst (pc' := 58) (v := 4) hx (hd 35) (by decide) rfl ?_
      refine r_iload_n (pc' := 59) hx (hd 36) rfl 3 rfl rfl ?_
      refine r_iast (pc' := 60) (k := 4) hx (hd 37) h14 (by decide) (by decide) rfl (fun M15 => ?_)
      refine r_aload_n (pc' := 61) hx (hd 38) rfl 1 rfl rfl ?_
      refine r_iconst (pc' := 62) (v := 0) hx (hd 39) (by decide) rfl ?_
      refine r_callVI (pc' := 65) (As := [.int 0]) (rest := []) hx (hd 40) md_X12_countFive mi_X12_countFive ms_X12_countFive ml_12_484 (cX12_countFive (xl x) w hL t ht 0 M15) ht rfl (by decide) ⟨Nat.le_of_ble_eq_true rfl, Nat.le_of_ble_eq_true rfl⟩ rfl rfl (Nat.le_of_ble_eq_true rfl) (fun r17 => .int r17 :: []) (fun _ => rfl) rfl (fun r17 M16 => ?_)
      exact r_iret hx (hd 41) rfl rfl hz
    · skip
      refine r_sub [] rfl ?_
      exact hj4
abbrev yX12_keepDeep : MethodName := ({ cls := "CribbageRoomModel", name := "keepDeep", desc := "(I)V" } : Jvm.MethodName)
def tbX12_keepDeep : List (Nat × Instr × Nat) := [(0, .iconst 0, 1), (1, .istore_n 2, 1), (2, .iload_n 2, 1), (3, .bipush 122, 2), (5, .if_icmp .ge 29, 3), (8, .aload_n 0, 1), (9, .getfield 149, 3), (12, .bipush 122, 2), (14, .iload_n 1, 1), (15, .imul, 1), (16, .iload_n 2, 1), (17, .iadd, 1), (18, .aload_n 0, 1), (19, .getfield 13, 3), (22, .bipush 8, 2), (24, .iload_n 2, 1), (25, .iadd, 1), (26, .iaload, 1), (27, .iastore, 1), (28, .iinc 2 1, 3), (31, .goto (-29), 3), (34, .aload_n 0, 1), (35, .getfield 152, 3), (38, .iload_n 1, 1), (39, .iconst (-1), 1), (40, .iastore, 1), (41, .aload_n 0, 1), (42, .getfield 161, 3), (45, .iload_n 1, 1), (46, .iconst (-1), 1), (47, .iastore, 1), (48, .aload_n 0, 1), (49, .getfield 158, 3), (52, .iload_n 1, 1), (53, .iconst 0, 1), (54, .iastore, 1), (55, .return_, 1)]
theorem dX12_keepDeep : ∀ q ∈ tbX12_keepDeep, decode prog_14_method_112_code q.1 = .ok q.2 := by decide +kernel
set_option maxRecDepth 20000 in
theorem cX12_keepDeep (l : Launch) (w : WX) (hL : Lay w) (t : Nat) (ht : Wat w t 12 0) (p1 : Int32) (M : Mem) : Ct l w yX12_keepDeep prog_14_method_112_code 3 (Option.none : Option FieldType) 0 0 evU emU [.ref t, .int p1] M (FX12_keepDeep t p1 M) := by
  refine ct_of (by decide) (Nat.le_of_ble_eq_true rfl) (fun x hl hx hb hz => ?_)
  subst hl
  have hd : ∀ i, DAt (xc x).code (tbX12_keepDeep[i]?) := fun i => by rw [hb]; exact dat_of dX12_keepDeep i
  show C x w (Qn x w evU emU) 3 0 [(0, .ref t), (1, .int p1)] [] M (FX12_keepDeep t p1 M)
  unfold FX12_keepDeep
  refine r_iconst (pc' := 1) (v := 0) hx (hd 0) (by decide) rfl ?_
  refine r_istore_n (pc' := 2) (L' := [(2, .int 0), (0, .ref t), (1, .int p1)]) hx (hd 1) rfl (by decide) rfl rfl ?_
  refine r_sub [1, 2, 0] rfl ?_
  refine r_wl2 (fun v1 M2 => [(0, .ref t), (1, .int p1), (2, .int v1)]) (fun v1 M2 => []) (fun v1 M2 => M2) (fun v1 M2 rec3 ih4 => ?_) fuel 0 M
  refine r_iload_n (pc' := 3) hx (hd 2) rfl 2 rfl rfl ?_
  refine r_bipush (pc' := 5) (v := 122) hx (hd 3) (by decide) rfl ?_
  refine r_icmp_ge (tgt := 34) (pc' := 8) hx (hd 4) (by decide) (fun _ => ?_) rfl (fun _ => ?_)
  · skip
    refine r_aload_n (pc' := 35) hx (hd 21) rfl 0 rfl rfl ?_
    refine r_get (pc' := 38) (v := .ref (t + 33)) hx (hd 22) fl_12_152 ht rfl (by decide) rfl ?_
    have h5 := hL.1 _ _ _ ht 54 33 20 10 rfl
    refine r_iload_n (pc' := 39) hx (hd 23) rfl 1 rfl rfl ?_
    refine r_iconst (pc' := 40) (v := (-1)) hx (hd 24) (by decide) rfl ?_
    refine r_gd (fun h7 => ?_)
    refine r_iast (pc' := 41) (k := ix p1) hx (hd 25) h5 h7 rfl rfl (fun M6 => ?_)
    refine r_aload_n (pc' := 42) hx (hd 26) rfl 0 rfl rfl ?_
    refine r_get (pc' := 45) (v := .ref (t + 36)) hx (hd 27) fl_12_161 ht rfl (by decide) rfl ?_
    have h8 := hL.1 _ _ _ ht 57 36 20 10 rfl
    refine r_iload_n (pc' := 46) hx (hd 28) rfl 1 rfl rfl ?_
    refine r_iconst (pc' := 47) (v := (-1)) hx (hd 29) (by decide) rfl ?_
    refine r_gd (fun h10 => ?_)
    refine r_iast (pc' := 48) (k := ix p1) hx (hd 30) h8 h10 rfl rfl (fun M9 => ?_)
    refine r_aload_n (pc' := 49) hx (hd 31) rfl 0 rfl rfl ?_
    refine r_get (pc' := 52) (v := .ref (t + 35)) hx (hd 32) fl_12_158 ht rfl (by decide) rfl ?_
    have h11 := hL.1 _ _ _ ht 56 35 20 10 rfl
    refine r_iload_n (pc' := 53) hx (hd 33) rfl 1 rfl rfl ?_
    refine r_iconst (pc' := 54) (v := 0) hx (hd 34) (by decide) rfl ?_
    refine r_gd (fun h13 => ?_)
    refine r_iast (pc' := 55) (k := ix p1) hx (hd 35) h11 h13 rfl rfl (fun M12 => ?_)
    exact r_vret hx (hd 36) rfl rfl hz
  · skip
    refine r_aload_n (pc' := 9) hx (hd 5) rfl 0 rfl rfl ?_
    refine r_get (pc' := 12) (v := .ref (t + 32)) hx (hd 6) fl_12_149 ht rfl (by decide) rfl ?_
    have h14 := hL.1 _ _ _ ht 53 32 20 1220 rfl
    refine r_bipush (pc' := 14) (v := 122) hx (hd 7) (by decide) rfl ?_
    refine r_iload_n (pc' := 15) hx (hd 8) rfl 1 rfl rfl ?_
    refine r_imul (pc' := 16) hx (hd 9) rfl ?_
    refine r_iload_n (pc' := 17) hx (hd 10) rfl 2 rfl rfl ?_
    refine r_iadd (pc' := 18) hx (hd 11) rfl ?_
    refine r_aload_n (pc' := 19) hx (hd 12) rfl 0 rfl rfl ?_
    refine r_get (pc' := 22) (v := .ref (t + 2)) hx (hd 13) fl_12_13 ht rfl (by decide) rfl ?_
    have h15 := hL.1 _ _ _ ht 3 2 20 5594 rfl
    refine r_bipush (pc' := 24) (v := 8) hx (hd 14) (by decide) rfl ?_
    refine r_iload_n (pc' := 25) hx (hd 15) rfl 2 rfl rfl ?_
    refine r_iadd (pc' := 26) hx (hd 16) rfl ?_
    refine r_gd (fun h16 => ?_)
    refine r_iald (pc' := 27) (k := ix (8 + v1)) hx (hd 17) h15 h16 rfl rfl ?_
    refine r_gd (fun h18 => ?_)
    refine r_iast (pc' := 28) (k := ix ((122 * p1) + v1)) hx (hd 18) h14 h18 rfl rfl (fun M17 => ?_)
    refine r_iinc (pc' := 31) (v := 1) hx (hd 19) 2 rfl (by decide) (by decide) (fun v19 => [(2, .int v19), (0, .ref t), (1, .int p1)]) (fun _ => rfl) rfl (fun v19 => ?_)
    refine r_goto (tgt := 2) hx (hd 20) (by decide) ?_
    refine r_sub [1, 2, 0] rfl ?_
    exact ih4 v19 M17
abbrev yX12_putDeep : MethodName := ({ cls := "CribbageRoomModel", name := "putDeep", desc := "(I)V" } : Jvm.MethodName)
def tbX12_putDeep : List (Nat × Instr × Nat) := [(0, .iconst 0, 1), (1, .istore_n 2, 1), (2, .iload_n 2, 1), (3, .bipush 122, 2), (5, .if_icmp .ge 29, 3), (8, .aload_n 0, 1), (9, .getfield 13, 3), (12, .bipush 8, 2), (14, .iload_n 2, 1), (15, .iadd, 1), (16, .aload_n 0, 1), (17, .getfield 149, 3), (20, .bipush 122, 2), (22, .iload_n 1, 1), (23, .imul, 1), (24, .iload_n 2, 1), (25, .iadd, 1), (26, .iaload, 1), (27, .iastore, 1), (28, .iinc 2 1, 3), (31, .goto (-29), 3), (34, .return_, 1)]
theorem dX12_putDeep : ∀ q ∈ tbX12_putDeep, decode prog_14_method_113_code q.1 = .ok q.2 := by decide +kernel
set_option maxRecDepth 20000 in
theorem cX12_putDeep (l : Launch) (w : WX) (hL : Lay w) (t : Nat) (ht : Wat w t 12 0) (p1 : Int32) (M : Mem) : Ct l w yX12_putDeep prog_14_method_113_code 3 (Option.none : Option FieldType) 0 0 evU emU [.ref t, .int p1] M (FX12_putDeep t p1 M) := by
  refine ct_of (by decide) (Nat.le_of_ble_eq_true rfl) (fun x hl hx hb hz => ?_)
  subst hl
  have hd : ∀ i, DAt (xc x).code (tbX12_putDeep[i]?) := fun i => by rw [hb]; exact dat_of dX12_putDeep i
  show C x w (Qn x w evU emU) 3 0 [(0, .ref t), (1, .int p1)] [] M (FX12_putDeep t p1 M)
  unfold FX12_putDeep
  refine r_iconst (pc' := 1) (v := 0) hx (hd 0) (by decide) rfl ?_
  refine r_istore_n (pc' := 2) (L' := [(2, .int 0), (0, .ref t), (1, .int p1)]) hx (hd 1) rfl (by decide) rfl rfl ?_
  refine r_sub [1, 2, 0] rfl ?_
  refine r_wl2 (fun v1 M2 => [(0, .ref t), (1, .int p1), (2, .int v1)]) (fun v1 M2 => []) (fun v1 M2 => M2) (fun v1 M2 rec3 ih4 => ?_) fuel 0 M
  refine r_iload_n (pc' := 3) hx (hd 2) rfl 2 rfl rfl ?_
  refine r_bipush (pc' := 5) (v := 122) hx (hd 3) (by decide) rfl ?_
  refine r_icmp_ge (tgt := 34) (pc' := 8) hx (hd 4) (by decide) (fun _ => ?_) rfl (fun _ => ?_)
  · skip
    exact r_vret hx (hd 21) rfl rfl hz
  · skip
    refine r_aload_n (pc' := 9) hx (hd 5) rfl 0 rfl rfl ?_
    refine r_get (pc' := 12) (v := .ref (t + 2)) hx (hd 6) fl_12_13 ht rfl (by decide) rfl ?_
    have h5 := hL.1 _ _ _ ht 3 2 20 5594 rfl
    refine r_bipush (pc' := 14) (v := 8) hx (hd 7) (by decide) rfl ?_
    refine r_iload_n (pc' := 15) hx (hd 8) rfl 2 rfl rfl ?_
    refine r_iadd (pc' := 16) hx (hd 9) rfl ?_
    refine r_aload_n (pc' := 17) hx (hd 10) rfl 0 rfl rfl ?_
    refine r_get (pc' := 20) (v := .ref (t + 32)) hx (hd 11) fl_12_149 ht rfl (by decide) rfl ?_
    have h6 := hL.1 _ _ _ ht 53 32 20 1220 rfl
    refine r_bipush (pc' := 22) (v := 122) hx (hd 12) (by decide) rfl ?_
    refine r_iload_n (pc' := 23) hx (hd 13) rfl 1 rfl rfl ?_
    refine r_imul (pc' := 24) hx (hd 14) rfl ?_
    refine r_iload_n (pc' := 25) hx (hd 15) rfl 2 rfl rfl ?_
    refine r_iadd (pc' := 26) hx (hd 16) rfl ?_
    refine r_gd (fun h7 => ?_)
    refine r_iald (pc' := 27) (k := ix ((122 * p1) + v1)) hx (hd 17) h6 h7 rfl rfl ?_
    refine r_gd (fun h9 => ?_)
    refine r_iast (pc' := 28) (k := ix (8 + v1)) hx (hd 18) h5 h9 rfl rfl (fun M8 => ?_)
    refine r_iinc (pc' := 31) (v := 1) hx (hd 19) 2 rfl (by decide) (by decide) (fun v10 => [(2, .int v10), (0, .ref t), (1, .int p1)]) (fun _ => rfl) rfl (fun v10 => ?_)
    refine r_goto (tgt := 2) hx (hd 20) (by decide) ?_
    refine r_sub [1, 2, 0] rfl ?_
    exact ih4 v10 M8
abbrev yX12_takeBest : MethodName := ({ cls := "CribbageRoomModel", name := "takeBest", desc := "(II)V" } : Jvm.MethodName)
def tbX12_takeBest : List (Nat × Instr × Nat) := [(0, .aload_n 0, 1), (1, .getfield 161, 3), (4, .iload_n 1, 1), (5, .iaload, 1), (6, .iconst (-1), 1), (7, .if_icmp .eq 36, 3), (10, .aload_n 0, 1), (11, .getfield 13, 3), (14, .bipush 14, 2), (16, .iaload, 1), (17, .ifCond .ne 16, 3), (20, .iload_n 2, 1), (21, .aload_n 0, 1), (22, .getfield 158, 3), (25, .iload_n 1, 1), (26, .iaload, 1), (27, .if_icmp .le 20, 3), (30, .goto 13, 3), (33, .iload_n 2, 1), (34, .aload_n 0, 1), (35, .getfield 158, 3), (38, .iload_n 1, 1), (39, .iaload, 1), (40, .if_icmp .ge 7, 3), (43, .iconst 1, 1), (44, .goto 4, 3), (47, .iconst 0, 1), (48, .istore_n 3, 1), (49, .aload_n 0, 1), (50, .getfield 161, 3), (53, .iload_n 1, 1), (54, .iload_n 3, 1), (55, .ifCond .eq 12, 3), (58, .aload_n 0, 1), (59, .getfield 152, 3), (62, .iload_n 1, 1), (63, .iaload, 1), (64, .goto 9, 3), (67, .aload_n 0, 1), (68, .getfield 161, 3), (71, .iload_n 1, 1), (72, .iaload, 1), (73, .iastore, 1), (74, .aload_n 0, 1), (75, .getfield 158, 3), (78, .iload_n 1, 1), (79, .iload_n 3, 1), (80, .ifCond .eq 7, 3), (83, .iload_n 2, 1), (84, .goto 9, 3), (87, .aload_n 0, 1), (88, .getfield 158, 3), (91, .iload_n 1, 1), (92, .iaload, 1), (93, .iastore, 1), (94, .return_, 1)]
theorem dX12_takeBest : ∀ q ∈ tbX12_takeBest, decode prog_14_method_114_code q.1 = .ok q.2 := by decide +kernel
set_option maxRecDepth 20000 in
theorem cX12_takeBest (l : Launch) (w : WX) (hL : Lay w) (t : Nat) (ht : Wat w t 12 0) (p1 : Int32) (p2 : Int32) (M : Mem) : Ct l w yX12_takeBest prog_14_method_114_code 4 (Option.none : Option FieldType) 0 0 evU emU [.ref t, .int p1, .int p2] M (FX12_takeBest t p1 p2 M) := by
  refine ct_of (by decide) (Nat.le_of_ble_eq_true rfl) (fun x hl hx hb hz => ?_)
  subst hl
  have hd : ∀ i, DAt (xc x).code (tbX12_takeBest[i]?) := fun i => by rw [hb]; exact dat_of dX12_takeBest i
  show C x w (Qn x w evU emU) 4 0 [(0, .ref t), (1, .int p1), (2, .int p2)] [] M (FX12_takeBest t p1 p2 M)
  unfold FX12_takeBest
  refine r_aload_n (pc' := 1) hx (hd 0) rfl 0 rfl rfl ?_
  refine r_get (pc' := 4) (v := .ref (t + 36)) hx (hd 1) fl_12_161 ht rfl (by decide) rfl ?_
  have h1 := hL.1 _ _ _ ht 57 36 20 10 rfl
  refine r_iload_n (pc' := 5) hx (hd 2) rfl 1 rfl rfl ?_
  refine r_gd (fun h2 => ?_)
  refine r_iald (pc' := 6) (k := ix p1) hx (hd 3) h1 h2 rfl rfl ?_
  refine r_iconst (pc' := 7) (v := (-1)) hx (hd 4) (by decide) rfl ?_
  refine r_jn1 48 (fun v3 => [(0, .ref t), (1, .int p1), (2, .int p2)]) (fun v3 => [.int v3]) (fun v3 => M) (fun v3 => ?_) (fun j4 hj5 => ?_)
  · skip
    refine r_istore_n (pc' := 49) (L' := [(3, .int v3), (0, .ref t), (1, .int p1), (2, .int p2)]) hx (hd 27) rfl (by decide) rfl rfl ?_
    refine r_aload_n (pc' := 50) hx (hd 28) rfl 1 rfl rfl ?_
    refine r_get (pc' := 53) (v := .ref (t + 36)) hx (hd 29) fl_12_161 ht rfl (by decide) rfl ?_
    have h6 := hL.1 _ _ _ ht 57 36 20 10 rfl
    refine r_iload_n (pc' := 54) hx (hd 30) rfl 2 rfl rfl ?_
    refine r_iload_n (pc' := 55) hx (hd 31) rfl 0 rfl rfl ?_
    refine r_jn1 73 (fun v7 => [(0, .ref t), (1, .int p1), (2, .int p2), (3, .int v3)]) (fun v7 => [.int v7, .int p1, .ref (t + 36)]) (fun v7 => M) (fun v7 => ?_) (fun j8 hj9 => ?_)
    · skip
      refine r_gd (fun h11 => ?_)
      refine r_iast (pc' := 74) (k := ix p1) hx (hd 42) h6 h11 rfl rfl (fun M10 => ?_)
      refine r_aload_n (pc' := 75) hx (hd 43) rfl 0 rfl rfl ?_
      refine r_get (pc' := 78) (v := .ref (t + 35)) hx (hd 44) fl_12_158 ht rfl (by decide) rfl ?_
      have h12 := hL.1 _ _ _ ht 56 35 20 10 rfl
      refine r_iload_n (pc' := 79) hx (hd 45) rfl 1 rfl rfl ?_
      refine r_iload_n (pc' := 80) hx (hd 46) rfl 3 rfl rfl ?_
      refine r_jn1 93 (fun v13 => []) (fun v13 => [.int v13, .int p1, .ref (t + 35)]) (fun v13 => M10) (fun v13 => ?_) (fun j14 hj15 => ?_)
      · skip
        refine r_gd (fun h17 => ?_)
        refine r_iast (pc' := 94) (k := ix p1) hx (hd 54) h12 h17 rfl rfl (fun M16 => ?_)
        exact r_vret hx (hd 55) rfl rfl hz
      refine r_if_eq (tgt := 87) (pc' := 83) hx (hd 47) (by decide) (fun _ => ?_) rfl (fun _ => ?_)
      · skip
        refine r_aload_n (pc' := 88) hx (hd 50) rfl 0 rfl rfl ?_
        refine r_get (pc' := 91) (v := .ref (t + 35)) hx (hd 51) fl_12_158 ht rfl (by decide) rfl ?_
        have h18 := hL.1 _ _ _ ht 56 35 20 10 rfl
        refine r_iload_n (pc' := 92) hx (hd 52) rfl 1 rfl rfl ?_
        refine r_gd (fun h19 => ?_)
        refine r_iald (pc' := 93) (k := ix p1) hx (hd 53) h18 h19 rfl rfl ?_
        refine r_sub [] rfl ?_
        exact hj15 (mI M10 (t + 35) (ix p1))
      · skip
        refine r_iload_n (pc' := 84) hx (hd 48) rfl 2 rfl rfl ?_
        refine r_goto (tgt := 93) hx (hd 49) (by decide) ?_
        refine r_sub [] rfl ?_
        exact hj15 p2
    refine r_if_eq (tgt := 67) (pc' := 58) hx (hd 32) (by decide) (fun _ => ?_) rfl (fun _ => ?_)
    · skip
      refine r_aload_n (pc' := 68) hx (hd 38) rfl 1 rfl rfl ?_
      refine r_get (pc' := 71) (v := .ref (t + 36)) hx (hd 39) fl_12_161 ht rfl (by decide) rfl ?_
      have h20 := hL.1 _ _ _ ht 57 36 20 10 rfl
      refine r_iload_n (pc' := 72) hx (hd 40) rfl 2 rfl rfl ?_
      refine r_gd (fun h21 => ?_)
      refine r_iald (pc' := 73) (k := ix p1) hx (hd 41) h20 h21 rfl rfl ?_
      refine r_sub [1, 2, 3, 0] rfl ?_
      exact hj9 (mI M (t + 36) (ix p1))
    · skip
      refine r_aload_n (pc' := 59) hx (hd 33) rfl 1 rfl rfl ?_
      refine r_get (pc' := 62) (v := .ref (t + 33)) hx (hd 34) fl_12_152 ht rfl (by decide) rfl ?_
      have h22 := hL.1 _ _ _ ht 54 33 20 10 rfl
      refine r_iload_n (pc' := 63) hx (hd 35) rfl 2 rfl rfl ?_
      refine r_gd (fun h23 => ?_)
      refine r_iald (pc' := 64) (k := ix p1) hx (hd 36) h22 h23 rfl rfl ?_
      refine r_goto (tgt := 73) hx (hd 37) (by decide) ?_
      refine r_sub [1, 2, 3, 0] rfl ?_
      exact hj9 (mI M (t + 33) (ix p1))
  refine r_jn0 43 ([(0, .ref t), (1, .int p1), (2, .int p2)]) ([]) (M) (?_) (fun j24 hj25 => ?_)
  · skip
    refine r_iconst (pc' := 44) (v := 1) hx (hd 24) (by decide) rfl ?_
    refine r_goto (tgt := 48) hx (hd 25) (by decide) ?_
    exact hj5 1
  refine r_icmp_eq (tgt := 43) (pc' := 10) hx (hd 5) (by decide) (fun _ => ?_) rfl (fun _ => ?_)
  · skip
    exact hj25
  · skip
    refine r_aload_n (pc' := 11) hx (hd 6) rfl 0 rfl rfl ?_
    refine r_get (pc' := 14) (v := .ref (t + 2)) hx (hd 7) fl_12_13 ht rfl (by decide) rfl ?_
    have h26 := hL.1 _ _ _ ht 3 2 20 5594 rfl
    refine r_bipush (pc' := 16) (v := 14) hx (hd 8) (by decide) rfl ?_
    refine r_iald (pc' := 17) (k := 14) hx (hd 9) h26 (by decide) (by decide) rfl ?_
    refine r_jn0 47 ([(0, .ref t), (1, .int p1), (2, .int p2)]) ([]) (M) (?_) (fun j27 hj28 => ?_)
    · skip
      refine r_iconst (pc' := 48) (v := 0) hx (hd 26) (by decide) rfl ?_
      exact hj5 0
    refine r_if_ne (tgt := 33) (pc' := 20) hx (hd 10) (by decide) (fun _ => ?_) rfl (fun _ => ?_)
    · skip
      refine r_iload_n (pc' := 34) hx (hd 18) rfl 2 rfl rfl ?_
      refine r_aload_n (pc' := 35) hx (hd 19) rfl 0 rfl rfl ?_
      refine r_get (pc' := 38) (v := .ref (t + 35)) hx (hd 20) fl_12_158 ht rfl (by decide) rfl ?_
      have h29 := hL.1 _ _ _ ht 56 35 20 10 rfl
      refine r_iload_n (pc' := 39) hx (hd 21) rfl 1 rfl rfl ?_
      refine r_gd (fun h30 => ?_)
      refine r_iald (pc' := 40) (k := ix p1) hx (hd 22) h29 h30 rfl rfl ?_
      refine r_icmp_ge (tgt := 47) (pc' := 43) hx (hd 23) (by decide) (fun _ => ?_) rfl (fun _ => ?_)
      · skip
        exact hj28
      · skip
        exact hj25
    · skip
      refine r_iload_n (pc' := 21) hx (hd 11) rfl 2 rfl rfl ?_
      refine r_aload_n (pc' := 22) hx (hd 12) rfl 0 rfl rfl ?_
      refine r_get (pc' := 25) (v := .ref (t + 35)) hx (hd 13) fl_12_158 ht rfl (by decide) rfl ?_
      have h31 := hL.1 _ _ _ ht 56 35 20 10 rfl
      refine r_iload_n (pc' := 26) hx (hd 14) rfl 1 rfl rfl ?_
      refine r_gd (fun h32 => ?_)
      refine r_iald (pc' := 27) (k := ix p1) hx (hd 15) h31 h32 rfl rfl ?_
      refine r_icmp_le (tgt := 47) (pc' := 30) hx (hd 16) (by decide) (fun _ => ?_) rfl (fun _ => ?_)
      · skip
        exact hj28
      · skip
        refine r_goto (tgt := 43) hx (hd 17) (by decide) ?_
        exact hj25
abbrev yX12_tryAll : MethodName := ({ cls := "CribbageRoomModel", name := "tryAll", desc := "()V" } : Jvm.MethodName)
def tbX12_tryAll : List (Nat × Instr × Nat) := [(0, .iconst 0, 1), (1, .istore_n 1, 1), (2, .aload_n 0, 1), (3, .iconst 0, 1), (4, .invokevirtual 578, 3), (7, .iload_n 1, 1), (8, .ifCond .lt 142, 3), (11, .aload_n 0, 1), (12, .iload_n 1, 1), (13, .invokevirtual 581, 3), (16, .aload_n 0, 1), (17, .getfield 13, 3), (20, .bipush 14, 2), (22, .iaload, 1), (23, .istore_n 2, 1), (24, .aload_n 0, 1), (25, .getfield 152, 3), (28, .iload_n 1, 1), (29, .iaload, 1), (30, .iconst 1, 1), (31, .iadd, 1), (32, .istore_n 3, 1), (33, .iload_n 2, 1), (34, .iconst (-1), 1), (35, .if_icmp .eq 24, 3), (38, .iload_n 3, 1), (39, .bipush 52, 2), (41, .if_icmp .ge 18, 3), (44, .aload_n 0, 1), (45, .iload_n 3, 1), (46, .iload_n 2, 1), (47, .invokevirtual 509, 3), (50, .ifCond .ne 9, 3), (53, .iinc 3 1, 3), (56, .goto (-23), 3), (59, .iload_n 2, 1), (60, .iconst (-1), 1), (61, .if_icmp .eq 52, 3), (64, .iload_n 3, 1), (65, .bipush 52, 2), (67, .if_icmp .ge 46, 3), (70, .aload_n 0, 1), (71, .getfield 152, 3), (74, .iload_n 1, 1), (75, .iload_n 3, 1), (76, .iastore, 1), (77, .aload_n 0, 1), (78, .iload_n 3, 1), (79, .invokevirtual 539, 3), (82, .istore 4, 2), (84, .aload_n 0, 1), (85, .getfield 155, 3), (88, .iload_n 1, 1), (89, .iload_n 2, 1), (90, .ifCond .ne 8, 3), (93, .iload 4, 2), (95, .goto 6, 3), (98, .iload 4, 2), (100, .ineg, 1), (101, .iastore, 1), (102, .iinc 1 1, 3), (105, .aload_n 0, 1), (106, .iload_n 1, 1), (107, .invokevirtual 578, 3), (110, .goto 37, 3), (113, .aload_n 0, 1), (114, .getfield 158, 3), (117, .iload_n 1, 1), (118, .iaload, 1), (119, .istore 4, 2), (121, .iinc 1 (-1), 3), (124, .iload_n 1, 1), (125, .ifCond .lt 22, 3), (128, .aload_n 0, 1), (129, .iload_n 1, 1), (130, .invokevirtual 581, 3), (133, .aload_n 0, 1), (134, .iload_n 1, 1), (135, .aload_n 0, 1), (136, .getfield 155, 3), (139, .iload_n 1, 1), (140, .iaload, 1), (141, .iload 4, 2), (143, .iadd, 1), (144, .invokevirtual 584, 3), (147, .goto (-140), 3), (150, .aload_n 0, 1), (151, .iconst 0, 1), (152, .invokevirtual 581, 3), (155, .return_, 1)]
theorem dX12_tryAll : ∀ q ∈ tbX12_tryAll, decode prog_14_method_115_code q.1 = .ok q.2 := by decide +kernel
set_option maxRecDepth 20000 in
theorem cX12_tryAll (l : Launch) (w : WX) (hL : Lay w) (t : Nat) (ht : Wat w t 12 0) (M : Mem) : Ct l w yX12_tryAll prog_14_method_115_code 5 (Option.none : Option FieldType) 9 215 evU emU [.ref t] M (FX12_tryAll t M) := by
  refine ct_of (by decide) (Nat.le_of_ble_eq_true rfl) (fun x hl hx hb hz => ?_)
  subst hl
  have hd : ∀ i, DAt (xc x).code (tbX12_tryAll[i]?) := fun i => by rw [hb]; exact dat_of dX12_tryAll i
  show C x w (Qn x w evU emU) 5 0 [(0, .ref t)] [] M (FX12_tryAll t M)
  unfold FX12_tryAll
  refine r_iconst (pc' := 1) (v := 0) hx (hd 0) (by decide) rfl ?_
  refine r_istore_n (pc' := 2) (L' := [(1, .int 0), (0, .ref t)]) hx (hd 1) rfl (by decide) rfl rfl ?_
  refine r_aload_n (pc' := 3) hx (hd 2) rfl 1 rfl rfl ?_
  refine r_iconst (pc' := 4) (v := 0) hx (hd 3) (by decide) rfl ?_
  refine r_callVU (pc' := 7) (As := [.int 0]) (rest := []) hx (hd 4) md_X12_keepDeep mi_X12_keepDeep ms_X12_keepDeep ml_12_578 (cX12_keepDeep (xl x) w hL t ht 0 M) ht rfl (by decide) ⟨Nat.le_of_ble_eq_true rfl, Nat.le_of_ble_eq_true rfl⟩ rfl rfl (Nat.le_of_ble_eq_true rfl) rfl (fun M1 => ?_)
  refine r_sub [1, 0] rfl ?_
  refine r_wl2 (fun v2 M3 => [(0, .ref t), (1, .int v2)]) (fun v2 M3 => []) (fun v2 M3 => M3) (fun v2 M3 rec4 ih5 => ?_) fuel 0 M1
  refine r_iload_n (pc' := 8) hx (hd 5) rfl 1 rfl rfl ?_
  refine r_if_lt (tgt := 150) (pc' := 11) hx (hd 6) (by decide) (fun _ => ?_) rfl (fun _ => ?_)
  · skip
    refine r_aload_n (pc' := 151) hx (hd 86) rfl 0 rfl rfl ?_
    refine r_iconst (pc' := 152) (v := 0) hx (hd 87) (by decide) rfl ?_
    refine r_callVU (pc' := 155) (As := [.int 0]) (rest := []) hx (hd 88) md_X12_putDeep mi_X12_putDeep ms_X12_putDeep ml_12_581 (cX12_putDeep (xl x) w hL t ht 0 M3) ht rfl (by decide) ⟨Nat.le_of_ble_eq_true rfl, Nat.le_of_ble_eq_true rfl⟩ rfl rfl (Nat.le_of_ble_eq_true rfl) rfl (fun M6 => ?_)
    exact r_vret hx (hd 89) rfl rfl hz
  · skip
    refine r_aload_n (pc' := 12) hx (hd 7) rfl 0 rfl rfl ?_
    refine r_iload_n (pc' := 13) hx (hd 8) rfl 1 rfl rfl ?_
    refine r_callVU (pc' := 16) (As := [.int v2]) (rest := []) hx (hd 9) md_X12_putDeep mi_X12_putDeep ms_X12_putDeep ml_12_581 (cX12_putDeep (xl x) w hL t ht v2 M3) ht rfl (by decide) ⟨Nat.le_of_ble_eq_true rfl, Nat.le_of_ble_eq_true rfl⟩ rfl rfl (Nat.le_of_ble_eq_true rfl) rfl (fun M7 => ?_)
    refine r_aload_n (pc' := 17) hx (hd 10) rfl 0 rfl rfl ?_
    refine r_get (pc' := 20) (v := .ref (t + 2)) hx (hd 11) fl_12_13 ht rfl (by decide) rfl ?_
    have h8 := hL.1 _ _ _ ht 3 2 20 5594 rfl
    refine r_bipush (pc' := 22) (v := 14) hx (hd 12) (by decide) rfl ?_
    refine r_iald (pc' := 23) (k := 14) hx (hd 13) h8 (by decide) (by decide) rfl ?_
    refine r_nmI (fun v9 => ?_)
    refine r_istore_n (pc' := 24) (L' := [(2, .int v9), (0, .ref t), (1, .int v2)]) hx (hd 14) rfl (by decide) rfl rfl ?_
    refine r_aload_n (pc' := 25) hx (hd 15) rfl 1 rfl rfl ?_
    refine r_get (pc' := 28) (v := .ref (t + 33)) hx (hd 16) fl_12_152 ht rfl (by decide) rfl ?_
    have h10 := hL.1 _ _ _ ht 54 33 20 10 rfl
    refine r_iload_n (pc' := 29) hx (hd 17) rfl 2 rfl rfl ?_
    refine r_gd (fun h11 => ?_)
    refine r_iald (pc' := 30) (k := ix v2) hx (hd 18) h10 h11 rfl rfl ?_
    refine r_iconst (pc' := 31) (v := 1) hx (hd 19) (by decide) rfl ?_
    refine r_iadd (pc' := 32) hx (hd 20) rfl ?_
    refine r_nmI (fun v12 => ?_)
    refine r_istore_n (pc' := 33) (L' := [(3, .int v12), (2, .int v9), (0, .ref t), (1, .int v2)]) hx (hd 21) rfl (by decide) rfl rfl ?_
    refine r_sub [2, 3, 1, 0] rfl ?_
    refine r_wl2 (fun v13 M14 => [(0, .ref t), (1, .int v2), (2, .int v9), (3, .int v13)]) (fun v13 M14 => []) (fun v13 M14 => M14) (fun v13 M14 rec15 ih16 => ?_) fuel v12 M7
    refine r_iload_n (pc' := 34) hx (hd 22) rfl 2 rfl rfl ?_
    refine r_iconst (pc' := 35) (v := (-1)) hx (hd 23) (by decide) rfl ?_
    refine r_jn1 59 (fun M17 => [(0, .ref t), (1, .int v2), (2, .int v9), (3, .int v13)]) (fun M17 => []) (fun M17 => M17) (fun M17 => ?_) (fun j18 hj19 => ?_)
    · skip
      refine r_iload_n (pc' := 60) hx (hd 35) rfl 2 rfl rfl ?_
      refine r_iconst (pc' := 61) (v := (-1)) hx (hd 36) (by decide) rfl ?_
      refine r_jn2 147 (fun v20 M21 => [(0, .ref t), (1, .int v20)]) (fun v20 M21 => []) (fun v20 M21 => M21) (fun v20 M21 => ?_) (fun j22 hj23 => ?_)
      · skip
        refine r_goto (tgt := 7) hx (hd 85) (by decide) ?_
        exact ih5 v20 M21
      refine r_jn0 113 ([(0, .ref t), (1, .int v2)]) ([]) (M17) (?_) (fun j24 hj25 => ?_)
      · skip
        refine r_aload_n (pc' := 114) hx (hd 65) rfl 0 rfl rfl ?_
        refine r_get (pc' := 117) (v := .ref (t + 35)) hx (hd 66) fl_12_158 ht rfl (by decide) rfl ?_
        have h26 := hL.1 _ _ _ ht 56 35 20 10 rfl
        refine r_iload_n (pc' := 118) hx (hd 67) rfl 1 rfl rfl ?_
        refine r_gd (fun h27 => ?_)
        refine r_iald (pc' := 119) (k := ix v2) hx (hd 68) h26 h27 rfl rfl ?_
        refine r_nmI (fun v28 => ?_)
        refine r_istore (pc' := 121) (L' := [(4, .int v28), (0, .ref t), (1, .int v2)]) hx (hd 69) (by decide) rfl rfl ?_
        refine r_iinc (pc' := 124) (v := (-1)) hx (hd 70) 2 rfl (by decide) (by decide) (fun v29 => [(1, .int v29), (4, .int v28), (0, .ref t)]) (fun _ => rfl) rfl (fun v29 => ?_)
        refine r_iload_n (pc' := 125) hx (hd 71) rfl 0 rfl rfl ?_
        refine r_if_lt (tgt := 147) (pc' := 128) hx (hd 72) (by decide) (fun _ => ?_) rfl (fun _ => ?_)
        · skip
          refine r_sub [2, 0] rfl ?_
          exact hj23 v29 M17
        · skip
          refine r_aload_n (pc' := 129) hx (hd 73) rfl 2 rfl rfl ?_
          refine r_iload_n (pc' := 130) hx (hd 74) rfl 0 rfl rfl ?_
          refine r_callVU (pc' := 133) (As := [.int v29]) (rest := []) hx (hd 75) md_X12_putDeep mi_X12_putDeep ms_X12_putDeep ml_12_581 (cX12_putDeep (xl x) w hL t ht v29 M17) ht rfl (by decide) ⟨Nat.le_of_ble_eq_true rfl, Nat.le_of_ble_eq_true rfl⟩ rfl rfl (Nat.le_of_ble_eq_true rfl) rfl (fun M30 => ?_)
          refine r_aload_n (pc' := 134) hx (hd 76) rfl 2 rfl rfl ?_
          refine r_iload_n (pc' := 135) hx (hd 77) rfl 0 rfl rfl ?_
          refine r_aload_n (pc' := 136) hx (hd 78) rfl 2 rfl rfl ?_
          refine r_get (pc' := 139) (v := .ref (t + 34)) hx (hd 79) fl_12_155 ht rfl (by decide) rfl ?_
          have h31 := hL.1 _ _ _ ht 55 34 20 10 rfl
          refine r_iload_n (pc' := 140) hx (hd 80) rfl 0 rfl rfl ?_
          refine r_gd (fun h32 => ?_)
          refine r_iald (pc' := 141) (k := ix v29) hx (hd 81) h31 h32 rfl rfl ?_
          refine r_iload (pc' := 143) hx (hd 82) 1 rfl rfl ?_
          refine r_iadd (pc' := 144) hx (hd 83) rfl ?_
          refine r_callVU (pc' := 147) (As := [.int v29, .int ((mI M30 (t + 34) (ix v29)) + v28)]) (rest := []) hx (hd 84) md_X12_takeBest mi_X12_takeBest ms_X12_takeBest ml_12_584 (cX12_takeBest (xl x) w hL t ht v29 ((mI M30 (t + 34) (ix v29)) + v28) M30) ht rfl (by decide) ⟨Nat.le_of_ble_eq_true rfl, Nat.le_of_ble_eq_true rfl⟩ rfl rfl (Nat.le_of_ble_eq_true rfl) rfl (fun M33 => ?_)
          refine r_sub [2, 0] rfl ?_
          exact hj23 v29 M33
      refine r_icmp_eq (tgt := 113) (pc' := 64) hx (hd 37) (by decide) (fun _ => ?_) rfl (fun _ => ?_)
      · skip
        refine r_sub [0, 1] rfl ?_
        exact hj25
      · skip
        refine r_iload_n (pc' := 65) hx (hd 38) rfl 3 rfl rfl ?_
        refine r_bipush (pc' := 67) (v := 52) hx (hd 39) (by decide) rfl ?_
        refine r_icmp_ge (tgt := 113) (pc' := 70) hx (hd 40) (by decide) (fun _ => ?_) rfl (fun _ => ?_)
        · skip
          refine r_sub [0, 1] rfl ?_
          exact hj25
        · skip
          refine r_aload_n (pc' := 71) hx (hd 41) rfl 0 rfl rfl ?_
          refine r_get (pc' := 74) (v := .ref (t + 33)) hx (hd 42) fl_12_152 ht rfl (by decide) rfl ?_
          have h34 := hL.1 _ _ _ ht 54 33 20 10 rfl
          refine r_iload_n (pc' := 75) hx (hd 43) rfl 1 rfl rfl ?_
          refine r_iload_n (pc' := 76) hx (hd 44) rfl 3 rfl rfl ?_
          refine r_gd (fun h36 => ?_)
          refine r_iast (pc' := 77) (k := ix v2) hx (hd 45) h34 h36 rfl rfl (fun M35 => ?_)
          refine r_aload_n (pc' := 78) hx (hd 46) rfl 0 rfl rfl ?_
          refine r_iload_n (pc' := 79) hx (hd 47) rfl 3 rfl rfl ?_
          refine r_callVI (pc' := 82) (As := [.int v13]) (rest := []) hx (hd 48) md_X12_playIt mi_X12_playIt ms_X12_playIt ml_12_539 (cX12_playIt (xl x) w hL t ht v13 M35) ht rfl (by decide) ⟨Nat.le_of_ble_eq_true rfl, Nat.le_of_ble_eq_true rfl⟩ rfl rfl (Nat.le_of_ble_eq_true rfl) (fun r38 => .int r38 :: []) (fun _ => rfl) rfl (fun r38 M37 => ?_)
          refine r_istore (pc' := 84) (L' := [(4, .int r38), (0, .ref t), (1, .int v2), (2, .int v9), (3, .int v13)]) hx (hd 49) (by decide) rfl rfl ?_
          refine r_aload_n (pc' := 85) hx (hd 50) rfl 1 rfl rfl ?_
          refine r_get (pc' := 88) (v := .ref (t + 34)) hx (hd 51) fl_12_155 ht rfl (by decide) rfl ?_
          have h39 := hL.1 _ _ _ ht 55 34 20 10 rfl
          refine r_iload_n (pc' := 89) hx (hd 52) rfl 2 rfl rfl ?_
          refine r_iload_n (pc' := 90) hx (hd 53) rfl 3 rfl rfl ?_
          refine r_jn1 101 (fun v40 => [(0, .ref t), (1, .int v2)]) (fun v40 => [.int v40, .int v2, .ref (t + 34)]) (fun v40 => M37) (fun v40 => ?_) (fun j41 hj42 => ?_)
          · skip
            refine r_gd (fun h44 => ?_)
            refine r_iast (pc' := 102) (k := ix v2) hx (hd 59) h39 h44 rfl rfl (fun M43 => ?_)
            refine r_iinc (pc' := 105) (v := 1) hx (hd 60) 1 rfl (by decide) (by decide) (fun v45 => [(1, .int v45), (0, .ref t)]) (fun _ => rfl) rfl (fun v45 => ?_)
            refine r_aload_n (pc' := 106) hx (hd 61) rfl 1 rfl rfl ?_
            refine r_iload_n (pc' := 107) hx (hd 62) rfl 0 rfl rfl ?_
            refine r_callVU (pc' := 110) (As := [.int v45]) (rest := []) hx (hd 63) md_X12_keepDeep mi_X12_keepDeep ms_X12_keepDeep ml_12_578 (cX12_keepDeep (xl x) w hL t ht v45 M43) ht rfl (by decide) ⟨Nat.le_of_ble_eq_true rfl, Nat.le_of_ble_eq_true rfl⟩ rfl rfl (Nat.le_of_ble_eq_true rfl) rfl (fun M46 => ?_)
            refine r_goto (tgt := 147) hx (hd 64) (by decide) ?_
            refine r_sub [1, 0] rfl ?_
            exact hj23 v45 M46
          refine r_if_ne (tgt := 98) (pc' := 93) hx (hd 54) (by decide) (fun _ => ?_) rfl (fun _ => ?_)
          · skip
            refine r_iload (pc' := 100) hx (hd 57) 0 rfl rfl ?_
            refine r_ineg (pc' := 101) hx (hd 58) rfl ?_
            refine r_sub [1, 2] rfl ?_
            exact hj42 (-r38)
          · skip
            refine r_iload (pc' := 95) hx (hd 55) 0 rfl rfl ?_
            refine r_goto (tgt := 101) hx (hd 56) (by decide) ?_
            refine r_sub [1, 2] rfl ?_
            exact hj42 r38
    refine r_icmp_eq (tgt := 59) (pc' := 38) hx (hd 24) (by decide) (fun _ => ?_) rfl (fun _ => ?_)
    · skip
      exact hj19 M14
    · skip
      refine r_iload_n (pc' := 39) hx (hd 25) rfl 3 rfl rfl ?_
      refine r_bipush (pc' := 41) (v := 52) hx (hd 26) (by decide) rfl ?_
      refine r_icmp_ge (tgt := 59) (pc' := 44) hx (hd 27) (by decide) (fun _ => ?_) rfl (fun _ => ?_)
      · skip
        exact hj19 M14
      · skip
        refine r_aload_n (pc' := 45) hx (hd 28) rfl 0 rfl rfl ?_
        refine r_iload_n (pc' := 46) hx (hd 29) rfl 3 rfl rfl ?_
        refine r_iload_n (pc' := 47) hx (hd 30) rfl 2 rfl rfl ?_
        refine r_callVI (pc' := 50) (As := [.int v13, .int v9]) (rest := []) hx (hd 31) md_X12_canPlay mi_X12_canPlay ms_X12_canPlay ml_12_509 (cX12_canPlay (xl x) w hL t ht v13 v9 M14) ht rfl (by decide) ⟨Nat.le_of_ble_eq_true rfl, Nat.le_of_ble_eq_true rfl⟩ rfl rfl (Nat.le_of_ble_eq_true rfl) (fun r48 => .int r48 :: []) (fun _ => rfl) rfl (fun r48 M47 => ?_)
        refine r_if_ne (tgt := 59) (pc' := 53) hx (hd 32) (by decide) (fun _ => ?_) rfl (fun _ => ?_)
        · skip
          exact hj19 M47
        · skip
          refine r_iinc (pc' := 56) (v := 1) hx (hd 33) 3 rfl (by decide) (by decide) (fun v49 => [(3, .int v49), (0, .ref t), (1, .int v2), (2, .int v9)]) (fun _ => rfl) rfl (fun v49 => ?_)
          refine r_goto (tgt := 33) hx (hd 34) (by decide) ?_
          refine r_sub [1, 2, 3, 0] rfl ?_
          exact ih16 v49 M47
abbrev yX12_toEnd : MethodName := ({ cls := "CribbageRoomModel", name := "toEnd", desc := "(I)I" } : Jvm.MethodName)
def tbX12_toEnd : List (Nat × Instr × Nat) := [(0, .aload_n 0, 1), (1, .iconst 0, 1), (2, .putfield 188, 3), (5, .aload_n 0, 1), (6, .getfield 13, 3), (9, .bipush 9, 2), (11, .iaload, 1), (12, .iconst 2, 1), (13, .if_icmp .ne 24, 3), (16, .aload_n 0, 1), (17, .getfield 13, 3), (20, .bipush 14, 2), (22, .iaload, 1), (23, .iconst (-1), 1), (24, .if_icmp .eq 13, 3), (27, .iload_n 1, 1), (28, .i2l, 1), (29, .lconst 0, 1), (30, .lconst 1, 1), (31, .invokestatic 208, 3), (34, .ifCond .ne 7, 3), (37, .sipush (-1000), 3), (40, .ireturn, 1), (41, .aload_n 0, 1), (42, .invokevirtual 587, 3), (45, .aload_n 0, 1), (46, .getfield 161, 3), (49, .iconst 0, 1), (50, .iaload, 1), (51, .iconst (-1), 1), (52, .if_icmp .ne 7, 3), (55, .sipush (-1000), 3), (58, .ireturn, 1), (59, .iload_n 1, 1), (60, .iconst 1, 1), (61, .if_icmp .ne 12, 3), (64, .aload_n 0, 1), (65, .getfield 161, 3), (68, .iconst 0, 1), (69, .iaload, 1), (70, .goto 29, 3), (73, .aload_n 0, 1), (74, .getfield 13, 3), (77, .bipush 14, 2), (79, .iaload, 1), (80, .ifCond .ne 12, 3), (83, .aload_n 0, 1), (84, .getfield 158, 3), (87, .iconst 0, 1), (88, .iaload, 1), (89, .goto 10, 3), (92, .aload_n 0, 1), (93, .getfield 158, 3), (96, .iconst 0, 1), (97, .iaload, 1), (98, .ineg, 1), (99, .ireturn, 1)]
theorem dX12_toEnd : ∀ q ∈ tbX12_toEnd, decode prog_14_method_116_code q.1 = .ok q.2 := by decide +kernel
set_option maxRecDepth 20000 in
theorem cX12_toEnd (l : Launch) (w : WX) (hL : Lay w) (t : Nat) (ht : Wat w t 12 0) (p1 : Int32) (M : Mem) : Ct l w yX12_toEnd prog_14_method_116_code 2 (Option.some FieldType.int) 10 239 evIM emM [.ref t, .int p1] M (FX12_toEnd t p1 M) := by
  refine ct_of (by decide) (Nat.le_of_ble_eq_true rfl) (fun x hl hx hb hz => ?_)
  subst hl
  have hd : ∀ i, DAt (xc x).code (tbX12_toEnd[i]?) := fun i => by rw [hb]; exact dat_of dX12_toEnd i
  show C x w (Qn x w evIM emM) 2 0 [(0, .ref t), (1, .int p1)] [] M (FX12_toEnd t p1 M)
  unfold FX12_toEnd
  refine r_aload_n (pc' := 1) hx (hd 0) rfl 0 rfl rfl ?_
  refine r_iconst (pc' := 2) (v := 0) hx (hd 1) (by decide) rfl ?_
  refine r_putI (pc' := 5) hx (hd 2) fp_12_188 ht rfl (by decide) rfl (fun M1 => ?_)
  refine r_aload_n (pc' := 6) hx (hd 3) rfl 0 rfl rfl ?_
  refine r_get (pc' := 9) (v := .ref (t + 2)) hx (hd 4) fl_12_13 ht rfl (by decide) rfl ?_
  have h2 := hL.1 _ _ _ ht 3 2 20 5594 rfl
  refine r_bipush (pc' := 11) (v := 9) hx (hd 5) (by decide) rfl ?_
  refine r_iald (pc' := 12) (k := 9) hx (hd 6) h2 (by decide) (by decide) rfl ?_
  refine r_iconst (pc' := 13) (v := 2) hx (hd 7) (by decide) rfl ?_
  refine r_jn0 37 ([]) ([]) (M1) (?_) (fun j3 hj4 => ?_)
  · skip
    refine r_sipush (pc' := 40) (v := (-1000)) hx (hd 21) (by decide) rfl ?_
    exact r_iret hx (hd 22) rfl rfl hz
  refine r_icmp_ne (tgt := 37) (pc' := 16) hx (hd 8) (by decide) (fun _ => ?_) rfl (fun _ => ?_)
  · skip
    refine r_sub [] rfl ?_
    exact hj4
  · skip
    refine r_aload_n (pc' := 17) hx (hd 9) rfl 0 rfl rfl ?_
    refine r_get (pc' := 20) (v := .ref (t + 2)) hx (hd 10) fl_12_13 ht rfl (by decide) rfl ?_
    have h5 := hL.1 _ _ _ ht 3 2 20 5594 rfl
    refine r_bipush (pc' := 22) (v := 14) hx (hd 11) (by decide) rfl ?_
    refine r_iald (pc' := 23) (k := 14) hx (hd 12) h5 (by decide) (by decide) rfl ?_
    refine r_iconst (pc' := 24) (v := (-1)) hx (hd 13) (by decide) rfl ?_
    refine r_icmp_eq (tgt := 37) (pc' := 27) hx (hd 14) (by decide) (fun _ => ?_) rfl (fun _ => ?_)
    · skip
      refine r_sub [] rfl ?_
      exact hj4
    · skip
      refine r_iload_n (pc' := 28) hx (hd 15) rfl 1 rfl rfl ?_
      refine r_i2l (pc' := 29) hx (hd 16) rfl ?_
      refine r_lconst (pc' := 30) (v := 0) hx (hd 17) (by decide) rfl ?_
      refine r_lconst (pc' := 31) (v := 1) hx (hd 18) (by decide) rfl ?_
      refine r_callS (pc' := 34) (As := [.long p1.toInt64, .long 0, .long 1]) (rest := []) hx (hd 19) md_X12_in mst_X12_in ml_12_208 (cX12_in (xl x) w hL (p1.toInt64) 0 1 M1) ⟨Nat.le_of_ble_eq_true rfl, Nat.le_of_ble_eq_true rfl⟩ rfl rfl (Nat.le_of_ble_eq_true rfl) (fun r6 => .int r6 :: []) (fun _ => M1) (fun _ => ⟨rfl, rfl⟩) rfl (fun r6 _ => ?_)
      refine r_if_ne (tgt := 41) (pc' := 37) hx (hd 20) (by decide) (fun _ => ?_) rfl (fun _ => ?_)
      · skip
        refine r_aload_n (pc' := 42) hx (hd 23) rfl 0 rfl rfl ?_
        refine r_callVU (pc' := 45) (As := []) (rest := []) hx (hd 24) md_X12_tryAll mi_X12_tryAll ms_X12_tryAll ml_12_587 (cX12_tryAll (xl x) w hL t ht M1) ht rfl (by decide) ⟨Nat.le_of_ble_eq_true rfl, Nat.le_of_ble_eq_true rfl⟩ rfl rfl (Nat.le_of_ble_eq_true rfl) rfl (fun M7 => ?_)
        refine r_aload_n (pc' := 46) hx (hd 25) rfl 0 rfl rfl ?_
        refine r_get (pc' := 49) (v := .ref (t + 36)) hx (hd 26) fl_12_161 ht rfl (by decide) rfl ?_
        have h8 := hL.1 _ _ _ ht 57 36 20 10 rfl
        refine r_iconst (pc' := 50) (v := 0) hx (hd 27) (by decide) rfl ?_
        refine r_iald (pc' := 51) (k := 0) hx (hd 28) h8 (by decide) (by decide) rfl ?_
        refine r_iconst (pc' := 52) (v := (-1)) hx (hd 29) (by decide) rfl ?_
        refine r_icmp_ne (tgt := 59) (pc' := 55) hx (hd 30) (by decide) (fun _ => ?_) rfl (fun _ => ?_)
        · skip
          refine r_iload_n (pc' := 60) hx (hd 33) rfl 1 rfl rfl ?_
          refine r_iconst (pc' := 61) (v := 1) hx (hd 34) (by decide) rfl ?_
          refine r_jn1 99 (fun v9 => []) (fun v9 => [.int v9]) (fun v9 => M7) (fun v9 => ?_) (fun j10 hj11 => ?_)
          · skip
            exact r_iret hx (hd 56) rfl rfl hz
          refine r_icmp_ne (tgt := 73) (pc' := 64) hx (hd 35) (by decide) (fun _ => ?_) rfl (fun _ => ?_)
          · skip
            refine r_aload_n (pc' := 74) hx (hd 41) rfl 0 rfl rfl ?_
            refine r_get (pc' := 77) (v := .ref (t + 2)) hx (hd 42) fl_12_13 ht rfl (by decide) rfl ?_
            have h12 := hL.1 _ _ _ ht 3 2 20 5594 rfl
            refine r_bipush (pc' := 79) (v := 14) hx (hd 43) (by decide) rfl ?_
            refine r_iald (pc' := 80) (k := 14) hx (hd 44) h12 (by decide) (by decide) rfl ?_
            refine r_if_ne (tgt := 92) (pc' := 83) hx (hd 45) (by decide) (fun _ => ?_) rfl (fun _ => ?_)
            · skip
              refine r_aload_n (pc' := 93) hx (hd 51) rfl 0 rfl rfl ?_
              refine r_get (pc' := 96) (v := .ref (t + 35)) hx (hd 52) fl_12_158 ht rfl (by decide) rfl ?_
              have h13 := hL.1 _ _ _ ht 56 35 20 10 rfl
              refine r_iconst (pc' := 97) (v := 0) hx (hd 53) (by decide) rfl ?_
              refine r_iald (pc' := 98) (k := 0) hx (hd 54) h13 (by decide) (by decide) rfl ?_
              refine r_ineg (pc' := 99) hx (hd 55) rfl ?_
              refine r_sub [] rfl ?_
              exact hj11 (-(mI M7 (t + 35) 0))
            · skip
              refine r_aload_n (pc' := 84) hx (hd 46) rfl 0 rfl rfl ?_
              refine r_get (pc' := 87) (v := .ref (t + 35)) hx (hd 47) fl_12_158 ht rfl (by decide) rfl ?_
              have h14 := hL.1 _ _ _ ht 56 35 20 10 rfl
              refine r_iconst (pc' := 88) (v := 0) hx (hd 48) (by decide) rfl ?_
              refine r_iald (pc' := 89) (k := 0) hx (hd 49) h14 (by decide) (by decide) rfl ?_
              refine r_goto (tgt := 99) hx (hd 50) (by decide) ?_
              refine r_sub [] rfl ?_
              exact hj11 (mI M7 (t + 35) 0)
          · skip
            refine r_aload_n (pc' := 65) hx (hd 36) rfl 0 rfl rfl ?_
            refine r_get (pc' := 68) (v := .ref (t + 36)) hx (hd 37) fl_12_161 ht rfl (by decide) rfl ?_
            have h15 := hL.1 _ _ _ ht 57 36 20 10 rfl
            refine r_iconst (pc' := 69) (v := 0) hx (hd 38) (by decide) rfl ?_
            refine r_iald (pc' := 70) (k := 0) hx (hd 39) h15 (by decide) (by decide) rfl ?_
            refine r_goto (tgt := 99) hx (hd 40) (by decide) ?_
            refine r_sub [] rfl ?_
            exact hj11 (mI M7 (t + 36) 0)
        · skip
          refine r_sipush (pc' := 58) (v := (-1000)) hx (hd 31) (by decide) rfl ?_
          exact r_iret hx (hd 32) rfl rfl hz
      · skip
        refine r_sub [] rfl ?_
        exact hj4
abbrev yX12_seen : MethodName := ({ cls := "CribbageRoomModel", name := "seen", desc := "(II)I" } : Jvm.MethodName)
def tbX12_seen : List (Nat × Instr × Nat) := [(0, .aload_n 0, 1), (1, .iconst 0, 1), (2, .putfield 188, 3), (5, .iload_n 1, 1), (6, .invokestatic 217, 3), (9, .ifCond .eq 15, 3), (12, .iload_n 2, 1), (13, .i2l, 1), (14, .lconst 0, 1), (15, .ldc2_w 242, 3), (18, .invokestatic 208, 3), (21, .ifCond .ne 9, 3), (24, .aload_n 0, 1), (25, .iconst (-1), 1), (26, .invokevirtual 197, 3), (29, .ireturn, 1), (30, .aload_n 0, 1), (31, .getfield 13, 3), (34, .iconst 0, 1), (35, .iaload, 1), (36, .istore_n 3, 1), (37, .iload_n 3, 1), (38, .bipush 6, 2), (40, .if_icmp .ne 10, 3), (43, .aload_n 0, 1), (44, .bipush (-5), 2), (46, .invokevirtual 197, 3), (49, .ireturn, 1), (50, .aload_n 0, 1), (51, .getfield 13, 3), (54, .sipush 182, 3), (57, .iconst 2, 1), (58, .iload_n 3, 1), (59, .imul, 1), (60, .iadd, 1), (61, .iload_n 1, 1), (62, .iastore, 1), (63, .aload_n 0, 1), (64, .getfield 13, 3), (67, .sipush 182, 3), (70, .iconst 2, 1), (71, .iload_n 3, 1), (72, .imul, 1), (73, .iadd, 1), (74, .iconst 1, 1), (75, .iadd, 1), (76, .iload_n 2, 1), (77, .iastore, 1), (78, .aload_n 0, 1), (79, .getfield 13, 3), (82, .iconst 0, 1), (83, .dup2, 1), (84, .iaload, 1), (85, .iconst 1, 1), (86, .iadd, 1), (87, .iastore, 1), (88, .aload_n 0, 1), (89, .iload_n 3, 1), (90, .iconst 1, 1), (91, .iadd, 1), (92, .invokevirtual 197, 3), (95, .ireturn, 1)]
theorem dX12_seen : ∀ q ∈ tbX12_seen, decode prog_14_method_117_code q.1 = .ok q.2 := by decide +kernel
set_option maxRecDepth 20000 in
theorem cX12_seen (l : Launch) (w : WX) (hL : Lay w) (t : Nat) (ht : Wat w t 12 0) (p1 : Int32) (p2 : Int32) (M : Mem) : Ct l w yX12_seen prog_14_method_117_code 4 (Option.some FieldType.int) 2 45 evIM emM [.ref t, .int p1, .int p2] M (FX12_seen t p1 p2 M) := by
  refine ct_of (by decide) (Nat.le_of_ble_eq_true rfl) (fun x hl hx hb hz => ?_)
  subst hl
  have hd : ∀ i, DAt (xc x).code (tbX12_seen[i]?) := fun i => by rw [hb]; exact dat_of dX12_seen i
  show C x w (Qn x w evIM emM) 4 0 [(0, .ref t), (1, .int p1), (2, .int p2)] [] M (FX12_seen t p1 p2 M)
  unfold FX12_seen
  refine r_aload_n (pc' := 1) hx (hd 0) rfl 0 rfl rfl ?_
  refine r_iconst (pc' := 2) (v := 0) hx (hd 1) (by decide) rfl ?_
  refine r_putI (pc' := 5) hx (hd 2) fp_12_188 ht rfl (by decide) rfl (fun M1 => ?_)
  refine r_iload_n (pc' := 6) hx (hd 3) rfl 1 rfl rfl ?_
  refine r_callS (pc' := 9) (As := [.int p1]) (rest := []) hx (hd 4) md_X12_isCard mst_X12_isCard ml_12_217 (cX12_isCard (xl x) w hL p1 M1) ⟨Nat.le_of_ble_eq_true rfl, Nat.le_of_ble_eq_true rfl⟩ rfl rfl (Nat.le_of_ble_eq_true rfl) (fun r2 => .int r2 :: []) (fun _ => M1) (fun _ => ⟨rfl, rfl⟩) rfl (fun r2 _ => ?_)
  refine r_jn0 24 ([(0, .ref t)]) ([]) (M1) (?_) (fun j3 hj4 => ?_)
  · skip
    refine r_aload_n (pc' := 25) hx (hd 12) rfl 0 rfl rfl ?_
    refine r_iconst (pc' := 26) (v := (-1)) hx (hd 13) (by decide) rfl ?_
    refine r_callVI (pc' := 29) (As := [.int (-1)]) (rest := []) hx (hd 14) md_X12_tell mi_X12_tell ms_X12_tell ml_12_197 (cX12_tell (xl x) w hL t ht (-1) M1) ht rfl (by decide) ⟨Nat.le_of_ble_eq_true rfl, Nat.le_of_ble_eq_true rfl⟩ rfl rfl (Nat.le_of_ble_eq_true rfl) (fun r6 => .int r6 :: []) (fun _ => rfl) rfl (fun r6 M5 => ?_)
    exact r_iret hx (hd 15) rfl rfl hz
  refine r_if_eq (tgt := 24) (pc' := 12) hx (hd 5) (by decide) (fun _ => ?_) rfl (fun _ => ?_)
  · skip
    refine r_sub [0] rfl ?_
    exact hj4
  · skip
    refine r_iload_n (pc' := 13) hx (hd 6) rfl 2 rfl rfl ?_
    refine r_i2l (pc' := 14) hx (hd 7) rfl ?_
    refine r_lconst (pc' := 15) (v := 0) hx (hd 8) (by decide) rfl ?_
    refine r_ldc2 (pc' := 18) hx (hd 9) kc_12_242 rfl ?_
    refine r_callS (pc' := 21) (As := [.long p2.toInt64, .long 0, .long 999]) (rest := []) hx (hd 10) md_X12_in mst_X12_in ml_12_208 (cX12_in (xl x) w hL (p2.toInt64) 0 999 M1) ⟨Nat.le_of_ble_eq_true rfl, Nat.le_of_ble_eq_true rfl⟩ rfl rfl (Nat.le_of_ble_eq_true rfl) (fun r7 => .int r7 :: []) (fun _ => M1) (fun _ => ⟨rfl, rfl⟩) rfl (fun r7 _ => ?_)
    refine r_if_ne (tgt := 30) (pc' := 24) hx (hd 11) (by decide) (fun _ => ?_) rfl (fun _ => ?_)
    · skip
      refine r_aload_n (pc' := 31) hx (hd 16) rfl 0 rfl rfl ?_
      refine r_get (pc' := 34) (v := .ref (t + 2)) hx (hd 17) fl_12_13 ht rfl (by decide) rfl ?_
      have h8 := hL.1 _ _ _ ht 3 2 20 5594 rfl
      refine r_iconst (pc' := 35) (v := 0) hx (hd 18) (by decide) rfl ?_
      refine r_iald (pc' := 36) (k := 0) hx (hd 19) h8 (by decide) (by decide) rfl ?_
      refine r_nmI (fun v9 => ?_)
      refine r_istore_n (pc' := 37) (L' := [(3, .int v9), (0, .ref t), (1, .int p1), (2, .int p2)]) hx (hd 20) rfl (by decide) rfl rfl ?_
      refine r_iload_n (pc' := 38) hx (hd 21) rfl 0 rfl rfl ?_
      refine r_bipush (pc' := 40) (v := 6) hx (hd 22) (by decide) rfl ?_
      refine r_icmp_ne (tgt := 50) (pc' := 43) hx (hd 23) (by decide) (fun _ => ?_) rfl (fun _ => ?_)
      · skip
        refine r_aload_n (pc' := 51) hx (hd 28) rfl 1 rfl rfl ?_
        refine r_get (pc' := 54) (v := .ref (t + 2)) hx (hd 29) fl_12_13 ht rfl (by decide) rfl ?_
        have h10 := hL.1 _ _ _ ht 3 2 20 5594 rfl
        refine r_sipush (pc' := 57) (v := 182) hx (hd 30) (by decide) rfl ?_
        refine r_iconst (pc' := 58) (v := 2) hx (hd 31) (by decide) rfl ?_
        refine r_iload_n (pc' := 59) hx (hd 32) rfl 0 rfl rfl ?_
        refine r_imul (pc' := 60) hx (hd 33) rfl ?_
        refine r_iadd (pc' := 61) hx (hd 34) rfl ?_
        refine r_iload_n (pc' := 62) hx (hd 35) rfl 2 rfl rfl ?_
        refine r_gd (fun h12 => ?_)
        refine r_iast (pc' := 63) (k := ix (182 + (2 * v9))) hx (hd 36) h10 h12 rfl rfl (fun M11 => ?_)
        refine r_aload_n (pc' := 64) hx (hd 37) rfl 1 rfl rfl ?_
        refine r_get (pc' := 67) (v := .ref (t + 2)) hx (hd 38) fl_12_13 ht rfl (by decide) rfl ?_
        have h13 := hL.1 _ _ _ ht 3 2 20 5594 rfl
        refine r_sipush (pc' := 70) (v := 182) hx (hd 39) (by decide) rfl ?_
        refine r_iconst (pc' := 71) (v := 2) hx (hd 40) (by decide) rfl ?_
        refine r_iload_n (pc' := 72) hx (hd 41) rfl 0 rfl rfl ?_
        refine r_imul (pc' := 73) hx (hd 42) rfl ?_
        refine r_iadd (pc' := 74) hx (hd 43) rfl ?_
        refine r_iconst (pc' := 75) (v := 1) hx (hd 44) (by decide) rfl ?_
        refine r_iadd (pc' := 76) hx (hd 45) rfl ?_
        refine r_iload_n (pc' := 77) hx (hd 46) rfl 3 rfl rfl ?_
        refine r_gd (fun h15 => ?_)
        refine r_iast (pc' := 78) (k := ix ((182 + (2 * v9)) + 1)) hx (hd 47) h13 h15 rfl rfl (fun M14 => ?_)
        refine r_aload_n (pc' := 79) hx (hd 48) rfl 1 rfl rfl ?_
        refine r_get (pc' := 82) (v := .ref (t + 2)) hx (hd 49) fl_12_13 ht rfl (by decide) rfl ?_
        have h16 := hL.1 _ _ _ ht 3 2 20 5594 rfl
        refine r_iconst (pc' := 83) (v := 0) hx (hd 50) (by decide) rfl ?_
        refine r_dup2 (pc' := 84) hx (hd 51) rfl rfl rfl ?_
        refine r_iald (pc' := 85) (k := 0) hx (hd 52) h16 (by decide) (by decide) rfl ?_
        refine r_iconst (pc' := 86) (v := 1) hx (hd 53) (by decide) rfl ?_
        refine r_iadd (pc' := 87) hx (hd 54) rfl ?_
        refine r_iast (pc' := 88) (k := 0) hx (hd 55) h16 (by decide) (by decide) rfl (fun M17 => ?_)
        refine r_aload_n (pc' := 89) hx (hd 56) rfl 1 rfl rfl ?_
        refine r_iload_n (pc' := 90) hx (hd 57) rfl 0 rfl rfl ?_
        refine r_iconst (pc' := 91) (v := 1) hx (hd 58) (by decide) rfl ?_
        refine r_iadd (pc' := 92) hx (hd 59) rfl ?_
        refine r_callVI (pc' := 95) (As := [.int (v9 + 1)]) (rest := []) hx (hd 60) md_X12_tell mi_X12_tell ms_X12_tell ml_12_197 (cX12_tell (xl x) w hL t ht (v9 + 1) M17) ht rfl (by decide) ⟨Nat.le_of_ble_eq_true rfl, Nat.le_of_ble_eq_true rfl⟩ rfl rfl (Nat.le_of_ble_eq_true rfl) (fun r19 => .int r19 :: []) (fun _ => rfl) rfl (fun r19 M18 => ?_)
        exact r_iret hx (hd 61) rfl rfl hz
      · skip
        refine r_aload_n (pc' := 44) hx (hd 24) rfl 1 rfl rfl ?_
        refine r_bipush (pc' := 46) (v := (-5)) hx (hd 25) (by decide) rfl ?_
        refine r_callVI (pc' := 49) (As := [.int (-5)]) (rest := []) hx (hd 26) md_X12_tell mi_X12_tell ms_X12_tell ml_12_197 (cX12_tell (xl x) w hL t ht (-5) M1) ht rfl (by decide) ⟨Nat.le_of_ble_eq_true rfl, Nat.le_of_ble_eq_true rfl⟩ rfl rfl (Nat.le_of_ble_eq_true rfl) (fun r21 => .int r21 :: []) (fun _ => rfl) rfl (fun r21 M20 => ?_)
        exact r_iret hx (hd 27) rfl rfl hz
    · skip
      refine r_sub [0] rfl ?_
      exact hj4
abbrev yX12_forget : MethodName := ({ cls := "CribbageRoomModel", name := "forget", desc := "()I" } : Jvm.MethodName)
def tbX12_forget : List (Nat × Instr × Nat) := [(0, .aload_n 0, 1), (1, .iconst 0, 1), (2, .putfield 188, 3), (5, .aload_n 0, 1), (6, .getfield 13, 3), (9, .iconst 0, 1), (10, .iaload, 1), (11, .istore_n 1, 1), (12, .aload_n 0, 1), (13, .getfield 13, 3), (16, .iconst 0, 1), (17, .iconst 0, 1), (18, .iastore, 1), (19, .iload_n 1, 1), (20, .ireturn, 1)]
theorem dX12_forget : ∀ q ∈ tbX12_forget, decode prog_14_method_118_code q.1 = .ok q.2 := by decide +kernel
set_option maxRecDepth 20000 in
theorem cX12_forget (l : Launch) (w : WX) (hL : Lay w) (t : Nat) (ht : Wat w t 12 0) (M : Mem) : Ct l w yX12_forget prog_14_method_118_code 2 (Option.some FieldType.int) 0 0 evIM emM [.ref t] M (FX12_forget t M) := by
  refine ct_of (by decide) (Nat.le_of_ble_eq_true rfl) (fun x hl hx hb hz => ?_)
  subst hl
  have hd : ∀ i, DAt (xc x).code (tbX12_forget[i]?) := fun i => by rw [hb]; exact dat_of dX12_forget i
  show C x w (Qn x w evIM emM) 2 0 [(0, .ref t)] [] M (FX12_forget t M)
  unfold FX12_forget
  refine r_aload_n (pc' := 1) hx (hd 0) rfl 0 rfl rfl ?_
  refine r_iconst (pc' := 2) (v := 0) hx (hd 1) (by decide) rfl ?_
  refine r_putI (pc' := 5) hx (hd 2) fp_12_188 ht rfl (by decide) rfl (fun M1 => ?_)
  refine r_aload_n (pc' := 6) hx (hd 3) rfl 0 rfl rfl ?_
  refine r_get (pc' := 9) (v := .ref (t + 2)) hx (hd 4) fl_12_13 ht rfl (by decide) rfl ?_
  have h2 := hL.1 _ _ _ ht 3 2 20 5594 rfl
  refine r_iconst (pc' := 10) (v := 0) hx (hd 5) (by decide) rfl ?_
  refine r_iald (pc' := 11) (k := 0) hx (hd 6) h2 (by decide) (by decide) rfl ?_
  refine r_nmI (fun v3 => ?_)
  refine r_istore_n (pc' := 12) (L' := [(1, .int v3), (0, .ref t)]) hx (hd 7) rfl (by decide) rfl rfl ?_
  refine r_aload_n (pc' := 13) hx (hd 8) rfl 1 rfl rfl ?_
  refine r_get (pc' := 16) (v := .ref (t + 2)) hx (hd 9) fl_12_13 ht rfl (by decide) rfl ?_
  have h4 := hL.1 _ _ _ ht 3 2 20 5594 rfl
  refine r_iconst (pc' := 17) (v := 0) hx (hd 10) (by decide) rfl ?_
  refine r_iconst (pc' := 18) (v := 0) hx (hd 11) (by decide) rfl ?_
  refine r_iast (pc' := 19) (k := 0) hx (hd 12) h4 (by decide) (by decide) rfl (fun M5 => ?_)
  refine r_iload_n (pc' := 20) hx (hd 13) rfl 0 rfl rfl ?_
  exact r_iret hx (hd 14) rfl rfl hz
abbrev yX12_takeFourth : MethodName := ({ cls := "CribbageRoomModel", name := "takeFourth", desc := "(I)V" } : Jvm.MethodName)
def tbX12_takeFourth : List (Nat × Instr × Nat) := [(0, .iconst 0, 1), (1, .istore_n 2, 1), (2, .iconst 0, 1), (3, .istore_n 3, 1), (4, .iload_n 3, 1), (5, .bipush 6, 2), (7, .if_icmp .ge 42, 3), (10, .iload_n 3, 1), (11, .iconst 1, 1), (12, .iadd, 1), (13, .istore 4, 2), (15, .iload 4, 2), (17, .bipush 6, 2), (19, .if_icmp .ge 24, 3), (22, .iload_n 2, 1), (23, .iload_n 1, 1), (24, .if_icmp .ne 10, 3), (27, .aload_n 0, 1), (28, .iload_n 3, 1), (29, .iload 4, 2), (31, .invokevirtual 568, 3), (34, .iinc 2 1, 3), (37, .iinc 4 1, 3), (40, .goto (-25), 3), (43, .iinc 3 1, 3), (46, .goto (-42), 3), (49, .return_, 1)]
theorem dX12_takeFourth : ∀ q ∈ tbX12_takeFourth, decode prog_14_method_119_code q.1 = .ok q.2 := by decide +kernel
set_option maxRecDepth 20000 in
theorem cX12_takeFourth (l : Launch) (w : WX) (hL : Lay w) (t : Nat) (ht : Wat w t 12 0) (p1 : Int32) (M : Mem) : Ct l w yX12_takeFourth prog_14_method_119_code 5 (Option.none : Option FieldType) 1 24 evU emU [.ref t, .int p1] M (FX12_takeFourth t p1 M) := by
  refine ct_of (by decide) (Nat.le_of_ble_eq_true rfl) (fun x hl hx hb hz => ?_)
  subst hl
  have hd : ∀ i, DAt (xc x).code (tbX12_takeFourth[i]?) := fun i => by rw [hb]; exact dat_of dX12_takeFourth i
  show C x w (Qn x w evU emU) 5 0 [(0, .ref t), (1, .int p1)] [] M (FX12_takeFourth t p1 M)
  unfold FX12_takeFourth
  refine r_iconst (pc' := 1) (v := 0) hx (hd 0) (by decide) rfl ?_
  refine r_istore_n (pc' := 2) (L' := [(2, .int 0), (0, .ref t), (1, .int p1)]) hx (hd 1) rfl (by decide) rfl rfl ?_
  refine r_iconst (pc' := 3) (v := 0) hx (hd 2) (by decide) rfl ?_
  refine r_istore_n (pc' := 4) (L' := [(3, .int 0), (2, .int 0), (0, .ref t), (1, .int p1)]) hx (hd 3) rfl (by decide) rfl rfl ?_
  refine r_sub [2, 3, 1, 0] rfl ?_
  refine r_wl3 (fun v1 v2 M3 => [(0, .ref t), (1, .int p1), (2, .int v1), (3, .int v2)]) (fun v1 v2 M3 => []) (fun v1 v2 M3 => M3) (fun v1 v2 M3 rec4 ih5 => ?_) fuel 0 0 M
  refine r_iload_n (pc' := 5) hx (hd 4) rfl 3 rfl rfl ?_
  refine r_bipush (pc' := 7) (v := 6) hx (hd 5) (by decide) rfl ?_
  refine r_icmp_ge (tgt := 49) (pc' := 10) hx (hd 6) (by decide) (fun _ => ?_) rfl (fun _ => ?_)
  · skip
    exact r_vret hx (hd 26) rfl rfl hz
  · skip
    refine r_iload_n (pc' := 11) hx (hd 7) rfl 3 rfl rfl ?_
    refine r_iconst (pc' := 12) (v := 1) hx (hd 8) (by decide) rfl ?_
    refine r_iadd (pc' := 13) hx (hd 9) rfl ?_
    refine r_nmI (fun v6 => ?_)
    refine r_istore (pc' := 15) (L' := [(4, .int v6), (0, .ref t), (1, .int p1), (2, .int v1), (3, .int v2)]) hx (hd 10) (by decide) rfl rfl ?_
    refine r_sub [1, 2, 3, 4, 0] rfl ?_
    refine r_wl3 (fun v7 v8 M9 => [(0, .ref t), (1, .int p1), (2, .int v7), (3, .int v2), (4, .int v8)]) (fun v7 v8 M9 => []) (fun v7 v8 M9 => M9) (fun v7 v8 M9 rec10 ih11 => ?_) fuel v1 v6 M3
    refine r_iload (pc' := 17) hx (hd 11) 4 rfl rfl ?_
    refine r_bipush (pc' := 19) (v := 6) hx (hd 12) (by decide) rfl ?_
    refine r_icmp_ge (tgt := 43) (pc' := 22) hx (hd 13) (by decide) (fun _ => ?_) rfl (fun _ => ?_)
    · skip
      refine r_iinc (pc' := 46) (v := 1) hx (hd 24) 3 rfl (by decide) (by decide) (fun v12 => [(3, .int v12), (0, .ref t), (1, .int p1), (2, .int v7), (4, .int v8)]) (fun _ => rfl) rfl (fun v12 => ?_)
      refine r_goto (tgt := 4) hx (hd 25) (by decide) ?_
      refine r_sub [1, 2, 3, 0] rfl ?_
      exact ih5 v7 v12 M9
    · skip
      refine r_iload_n (pc' := 23) hx (hd 14) rfl 2 rfl rfl ?_
      refine r_iload_n (pc' := 24) hx (hd 15) rfl 1 rfl rfl ?_
      refine r_jn1 34 (fun M13 => [(0, .ref t), (1, .int p1), (2, .int v7), (3, .int v2), (4, .int v8)]) (fun M13 => []) (fun M13 => M13) (fun M13 => ?_) (fun j14 hj15 => ?_)
      · skip
        refine r_iinc (pc' := 37) (v := 1) hx (hd 21) 2 rfl (by decide) (by decide) (fun v16 => [(2, .int v16), (0, .ref t), (1, .int p1), (3, .int v2), (4, .int v8)]) (fun _ => rfl) rfl (fun v16 => ?_)
        refine r_iinc (pc' := 40) (v := 1) hx (hd 22) 4 rfl (by decide) (by decide) (fun v17 => [(4, .int v17), (2, .int v16), (0, .ref t), (1, .int p1), (3, .int v2)]) (fun _ => rfl) rfl (fun v17 => ?_)
        refine r_goto (tgt := 15) hx (hd 23) (by decide) ?_
        refine r_sub [2, 3, 1, 4, 0] rfl ?_
        exact ih11 v16 v17 M13
      refine r_icmp_ne (tgt := 34) (pc' := 27) hx (hd 16) (by decide) (fun _ => ?_) rfl (fun _ => ?_)
      · skip
        exact hj15 M9
      · skip
        refine r_aload_n (pc' := 28) hx (hd 17) rfl 0 rfl rfl ?_
        refine r_iload_n (pc' := 29) hx (hd 18) rfl 3 rfl rfl ?_
        refine r_iload (pc' := 31) hx (hd 19) 4 rfl rfl ?_
        refine r_callVU (pc' := 34) (As := [.int v2, .int v8]) (rest := []) hx (hd 20) md_X12_takeFour mi_X12_takeFour ms_X12_takeFour ml_12_568 (cX12_takeFour (xl x) w hL t ht v2 v8 M9) ht rfl (by decide) ⟨Nat.le_of_ble_eq_true rfl, Nat.le_of_ble_eq_true rfl⟩ rfl rfl (Nat.le_of_ble_eq_true rfl) rfl (fun M18 => ?_)
        exact hj15 M18
abbrev yX12_isSeen : MethodName := ({ cls := "CribbageRoomModel", name := "isSeen", desc := "(I)Z" } : Jvm.MethodName)
def tbX12_isSeen : List (Nat × Instr × Nat) := [(0, .aload_n 0, 1), (1, .iload_n 1, 1), (2, .invokevirtual 590, 3), (5, .iconst 1, 1), (6, .istore_n 2, 1), (7, .iconst 0, 1), (8, .istore_n 3, 1), (9, .iload_n 3, 1), (10, .aload_n 0, 1), (11, .getfield 13, 3), (14, .iconst 0, 1), (15, .iaload, 1), (16, .if_icmp .ge 72, 3), (19, .iload_n 2, 1), (20, .ifCond .eq 68, 3), (23, .aload_n 0, 1), (24, .getfield 134, 3), (27, .iconst 4, 1), (28, .aload_n 0, 1), (29, .getfield 13, 3), (32, .sipush 182, 3), (35, .iconst 2, 1), (36, .iload_n 3, 1), (37, .imul, 1), (38, .iadd, 1), (39, .iaload, 1), (40, .iastore, 1), (41, .aload_n 0, 1), (42, .aload_n 0, 1), (43, .getfield 134, 3), (46, .iconst 4, 1), (47, .iaload, 1), (48, .invokevirtual 261, 3), (51, .ifCond .ne 29, 3), (54, .aload_n 0, 1), (55, .iconst 0, 1), (56, .invokevirtual 484, 3), (59, .aload_n 0, 1), (60, .getfield 13, 3), (63, .sipush 182, 3), (66, .iconst 2, 1), (67, .iload_n 3, 1), (68, .imul, 1), (69, .iadd, 1), (70, .iconst 1, 1), (71, .iadd, 1), (72, .iaload, 1), (73, .if_icmp .ne 7, 3), (76, .iconst 1, 1), (77, .goto 4, 3), (80, .iconst 0, 1), (81, .istore_n 2, 1), (82, .iinc 3 1, 3), (85, .goto (-76), 3), (88, .iload_n 2, 1), (89, .ireturn, 1)]
theorem dX12_isSeen : ∀ q ∈ tbX12_isSeen, decode prog_14_method_120_code q.1 = .ok q.2 := by decide +kernel
set_option maxRecDepth 20000 in
theorem cX12_isSeen (l : Launch) (w : WX) (hL : Lay w) (t : Nat) (ht : Wat w t 12 0) (p1 : Int32) (M : Mem) : Ct l w yX12_isSeen prog_14_method_120_code 4 (Option.some FieldType.boolean) 3 67 evIM emM [.ref t, .int p1] M (FX12_isSeen t p1 M) := by
  refine ct_of (by decide) (Nat.le_of_ble_eq_true rfl) (fun x hl hx hb hz => ?_)
  subst hl
  have hd : ∀ i, DAt (xc x).code (tbX12_isSeen[i]?) := fun i => by rw [hb]; exact dat_of dX12_isSeen i
  show C x w (Qn x w evIM emM) 4 0 [(0, .ref t), (1, .int p1)] [] M (FX12_isSeen t p1 M)
  unfold FX12_isSeen
  refine r_aload_n (pc' := 1) hx (hd 0) rfl 0 rfl rfl ?_
  refine r_iload_n (pc' := 2) hx (hd 1) rfl 1 rfl rfl ?_
  refine r_callVU (pc' := 5) (As := [.int p1]) (rest := []) hx (hd 2) md_X12_takeFourth mi_X12_takeFourth ms_X12_takeFourth ml_12_590 (cX12_takeFourth (xl x) w hL t ht p1 M) ht rfl (by decide) ⟨Nat.le_of_ble_eq_true rfl, Nat.le_of_ble_eq_true rfl⟩ rfl rfl (Nat.le_of_ble_eq_true rfl) rfl (fun M1 => ?_)
  refine r_iconst (pc' := 6) (v := 1) hx (hd 3) (by decide) rfl ?_
  refine r_istore_n (pc' := 7) (L' := [(2, .int 1), (0, .ref t), (1, .int p1)]) hx (hd 4) rfl (by decide) rfl rfl ?_
  refine r_iconst (pc' := 8) (v := 0) hx (hd 5) (by decide) rfl ?_
  refine r_istore_n (pc' := 9) (L' := [(3, .int 0), (2, .int 1), (0, .ref t), (1, .int p1)]) hx (hd 6) rfl (by decide) rfl rfl ?_
  refine r_sub [2, 1, 0] rfl ?_
  refine r_wl3 (fun v2 v3 M4 => [(0, .ref t), (2, .int v2), (3, .int v3)]) (fun v2 v3 M4 => []) (fun v2 v3 M4 => M4) (fun v2 v3 M4 rec5 ih6 => ?_) fuel 1 0 M1
  refine r_iload_n (pc' := 10) hx (hd 7) rfl 2 rfl rfl ?_
  refine r_aload_n (pc' := 11) hx (hd 8) rfl 0 rfl rfl ?_
  refine r_get (pc' := 14) (v := .ref (t + 2)) hx (hd 9) fl_12_13 ht rfl (by decide) rfl ?_
  have h7 := hL.1 _ _ _ ht 3 2 20 5594 rfl
  refine r_iconst (pc' := 15) (v := 0) hx (hd 10) (by decide) rfl ?_
  refine r_iald (pc' := 16) (k := 0) hx (hd 11) h7 (by decide) (by decide) rfl ?_
  refine r_jn0 88 ([(2, .int v2)]) ([]) (M4) (?_) (fun j8 hj9 => ?_)
  · skip
    refine r_iload_n (pc' := 89) hx (hd 54) rfl 0 rfl rfl ?_
    refine r_gd (fun h10 => ?_)
    exact r_zret hx (hd 55) h10 rfl rfl hz
  refine r_icmp_ge (tgt := 88) (pc' := 19) hx (hd 12) (by decide) (fun _ => ?_) rfl (fun _ => ?_)
  · skip
    refine r_sub [1] rfl ?_
    exact hj9
  · skip
    refine r_iload_n (pc' := 20) hx (hd 13) rfl 1 rfl rfl ?_
    refine r_if_eq (tgt := 88) (pc' := 23) hx (hd 14) (by decide) (fun _ => ?_) rfl (fun _ => ?_)
    · skip
      refine r_sub [1] rfl ?_
      exact hj9
    · skip
      refine r_aload_n (pc' := 24) hx (hd 15) rfl 0 rfl rfl ?_
      refine r_get (pc' := 27) (v := .ref (t + 27)) hx (hd 16) fl_12_134 ht rfl (by decide) rfl ?_
      have h11 := hL.1 _ _ _ ht 47 27 20 5 rfl
      refine r_iconst (pc' := 28) (v := 4) hx (hd 17) (by decide) rfl ?_
      refine r_aload_n (pc' := 29) hx (hd 18) rfl 0 rfl rfl ?_
      refine r_get (pc' := 32) (v := .ref (t + 2)) hx (hd 19) fl_12_13 ht rfl (by decide) rfl ?_
      have h12 := hL.1 _ _ _ ht 3 2 20 5594 rfl
      refine r_sipush (pc' := 35) (v := 182) hx (hd 20) (by decide) rfl ?_
      refine r_iconst (pc' := 36) (v := 2) hx (hd 21) (by decide) rfl ?_
      refine r_iload_n (pc' := 37) hx (hd 22) rfl 2 rfl rfl ?_
      refine r_imul (pc' := 38) hx (hd 23) rfl ?_
      refine r_iadd (pc' := 39) hx (hd 24) rfl ?_
      refine r_gd (fun h13 => ?_)
      refine r_iald (pc' := 40) (k := ix (182 + (2 * v3))) hx (hd 25) h12 h13 rfl rfl ?_
      refine r_iast (pc' := 41) (k := 4) hx (hd 26) h11 (by decide) (by decide) rfl (fun M14 => ?_)
      refine r_aload_n (pc' := 42) hx (hd 27) rfl 0 rfl rfl ?_
      refine r_aload_n (pc' := 43) hx (hd 28) rfl 0 rfl rfl ?_
      refine r_get (pc' := 46) (v := .ref (t + 27)) hx (hd 29) fl_12_134 ht rfl (by decide) rfl ?_
      have h15 := hL.1 _ _ _ ht 47 27 20 5 rfl
      refine r_iconst (pc' := 47) (v := 4) hx (hd 30) (by decide) rfl ?_
      refine r_iald (pc' := 48) (k := 4) hx (hd 31) h15 (by decide) (by decide) rfl ?_
      refine r_callV (pc' := 51) (As := [.int (mI M14 (t + 27) 4)]) (rest := []) hx (hd 32) md_X12_isHeld mi_X12_isHeld ms_X12_isHeld ml_12_261 (cX12_isHeld (xl x) w hL t ht (mI M14 (t + 27) 4) M14) ht rfl (by decide) ⟨Nat.le_of_ble_eq_true rfl, Nat.le_of_ble_eq_true rfl⟩ rfl rfl (Nat.le_of_ble_eq_true rfl) (fun r16 => .int r16 :: []) (fun _ => M14) (fun _ => ⟨rfl, rfl⟩) rfl (fun r16 _ => ?_)
      refine r_jn2 81 (fun v17 M18 => [(0, .ref t), (3, .int v3)]) (fun v17 M18 => [.int v17]) (fun v17 M18 => M18) (fun v17 M18 => ?_) (fun j19 hj20 => ?_)
      · skip
        refine r_istore_n (pc' := 82) (L' := [(2, .int v17), (0, .ref t), (3, .int v3)]) hx (hd 51) rfl (by decide) rfl rfl ?_
        refine r_iinc (pc' := 85) (v := 1) hx (hd 52) 2 rfl (by decide) (by decide) (fun v21 => [(3, .int v21), (2, .int v17), (0, .ref t)]) (fun _ => rfl) rfl (fun v21 => ?_)
        refine r_goto (tgt := 9) hx (hd 53) (by decide) ?_
        refine r_sub [2, 1, 0] rfl ?_
        exact ih6 v17 v21 M18
      refine r_jn1 80 (fun M22 => [(0, .ref t), (3, .int v3)]) (fun M22 => []) (fun M22 => M22) (fun M22 => ?_) (fun j23 hj24 => ?_)
      · skip
        refine r_iconst (pc' := 81) (v := 0) hx (hd 50) (by decide) rfl ?_
        exact hj20 0 M22
      refine r_if_ne (tgt := 80) (pc' := 54) hx (hd 33) (by decide) (fun _ => ?_) rfl (fun _ => ?_)
      · skip
        refine r_sub [0, 2] rfl ?_
        exact hj24 M14
      · skip
        refine r_aload_n (pc' := 55) hx (hd 34) rfl 0 rfl rfl ?_
        refine r_iconst (pc' := 56) (v := 0) hx (hd 35) (by decide) rfl ?_
        refine r_callVI (pc' := 59) (As := [.int 0]) (rest := []) hx (hd 36) md_X12_countFive mi_X12_countFive ms_X12_countFive ml_12_484 (cX12_countFive (xl x) w hL t ht 0 M14) ht rfl (by decide) ⟨Nat.le_of_ble_eq_true rfl, Nat.le_of_ble_eq_true rfl⟩ rfl rfl (Nat.le_of_ble_eq_true rfl) (fun r26 => .int r26 :: []) (fun _ => rfl) rfl (fun r26 M25 => ?_)
        refine r_aload_n (pc' := 60) hx (hd 37) rfl 0 rfl rfl ?_
        refine r_get (pc' := 63) (v := .ref (t + 2)) hx (hd 38) fl_12_13 ht rfl (by decide) rfl ?_
        have h27 := hL.1 _ _ _ ht 3 2 20 5594 rfl
        refine r_sipush (pc' := 66) (v := 182) hx (hd 39) (by decide) rfl ?_
        refine r_iconst (pc' := 67) (v := 2) hx (hd 40) (by decide) rfl ?_
        refine r_iload_n (pc' := 68) hx (hd 41) rfl 2 rfl rfl ?_
        refine r_imul (pc' := 69) hx (hd 42) rfl ?_
        refine r_iadd (pc' := 70) hx (hd 43) rfl ?_
        refine r_iconst (pc' := 71) (v := 1) hx (hd 44) (by decide) rfl ?_
        refine r_iadd (pc' := 72) hx (hd 45) rfl ?_
        refine r_gd (fun h28 => ?_)
        refine r_iald (pc' := 73) (k := ix ((182 + (2 * v3)) + 1)) hx (hd 46) h27 h28 rfl rfl ?_
        refine r_icmp_ne (tgt := 80) (pc' := 76) hx (hd 47) (by decide) (fun _ => ?_) rfl (fun _ => ?_)
        · skip
          refine r_sub [0, 2] rfl ?_
          exact hj24 M25
        · skip
          refine r_iconst (pc' := 77) (v := 1) hx (hd 48) (by decide) rfl ?_
          refine r_goto (tgt := 81) hx (hd 49) (by decide) ?_
          refine r_sub [0, 2] rfl ?_
          exact hj20 1 M25
abbrev yX12_thatCanBe : MethodName := ({ cls := "CribbageRoomModel", name := "thatCanBe", desc := "()I" } : Jvm.MethodName)
def tbX12_thatCanBe : List (Nat × Instr × Nat) := [(0, .aload_n 0, 1), (1, .invokevirtual 557, 3), (4, .pop, 1), (5, .aload_n 0, 1), (6, .iconst 0, 1), (7, .invokevirtual 481, 3), (10, .iconst 0, 1), (11, .istore_n 1, 1), (12, .iconst 0, 1), (13, .istore_n 2, 1), (14, .iload_n 2, 1), (15, .bipush 15, 2), (17, .if_icmp .ge 27, 3), (20, .iload_n 1, 1), (21, .aload_n 0, 1), (22, .iload_n 2, 1), (23, .invokevirtual 593, 3), (26, .ifCond .eq 9, 3), (29, .iconst 1, 1), (30, .iload_n 2, 1), (31, .ishl, 1), (32, .goto 4, 3), (35, .iconst 0, 1), (36, .ior, 1), (37, .istore_n 1, 1), (38, .iinc 2 1, 3), (41, .goto (-27), 3), (44, .iload_n 1, 1), (45, .ireturn, 1)]
theorem dX12_thatCanBe : ∀ q ∈ tbX12_thatCanBe, decode prog_14_method_121_code q.1 = .ok q.2 := by decide +kernel
set_option maxRecDepth 20000 in
theorem cX12_thatCanBe (l : Launch) (w : WX) (hL : Lay w) (t : Nat) (ht : Wat w t 12 0) (M : Mem) : Ct l w yX12_thatCanBe prog_14_method_121_code 3 (Option.some FieldType.int) 6 151 evIM emM [.ref t] M (FX12_thatCanBe t M) := by
  refine ct_of (by decide) (Nat.le_of_ble_eq_true rfl) (fun x hl hx hb hz => ?_)
  subst hl
  have hd : ∀ i, DAt (xc x).code (tbX12_thatCanBe[i]?) := fun i => by rw [hb]; exact dat_of dX12_thatCanBe i
  show C x w (Qn x w evIM emM) 3 0 [(0, .ref t)] [] M (FX12_thatCanBe t M)
  unfold FX12_thatCanBe
  refine r_aload_n (pc' := 1) hx (hd 0) rfl 0 rfl rfl ?_
  refine r_callVI (pc' := 4) (As := []) (rest := []) hx (hd 1) md_X12_laySix mi_X12_laySix ms_X12_laySix ml_12_557 (cX12_laySix (xl x) w hL t ht M) ht rfl (by decide) ⟨Nat.le_of_ble_eq_true rfl, Nat.le_of_ble_eq_true rfl⟩ rfl rfl (Nat.le_of_ble_eq_true rfl) (fun r2 => .int r2 :: []) (fun _ => rfl) rfl (fun r2 M1 => ?_)
  refine r_pop (pc' := 5) hx (hd 2) rfl rfl ?_
  refine r_aload_n (pc' := 6) hx (hd 3) rfl 0 rfl rfl ?_
  refine r_iconst (pc' := 7) (v := 0) hx (hd 4) (by decide) rfl ?_
  refine r_callVU (pc' := 10) (As := [.int 0]) (rest := []) hx (hd 5) md_X12_layCounts mi_X12_layCounts ms_X12_layCounts ml_12_481 (cX12_layCounts (xl x) w hL t ht 0 M1) ht rfl (by decide) ⟨Nat.le_of_ble_eq_true rfl, Nat.le_of_ble_eq_true rfl⟩ rfl rfl (Nat.le_of_ble_eq_true rfl) rfl (fun M3 => ?_)
  refine r_iconst (pc' := 11) (v := 0) hx (hd 6) (by decide) rfl ?_
  refine r_istore_n (pc' := 12) (L' := [(1, .int 0), (0, .ref t)]) hx (hd 7) rfl (by decide) rfl rfl ?_
  refine r_iconst (pc' := 13) (v := 0) hx (hd 8) (by decide) rfl ?_
  refine r_istore_n (pc' := 14) (L' := [(2, .int 0), (1, .int 0), (0, .ref t)]) hx (hd 9) rfl (by decide) rfl rfl ?_
  refine r_sub [2, 1, 0] rfl ?_
  refine r_wl3 (fun v4 v5 M6 => [(0, .ref t), (1, .int v4), (2, .int v5)]) (fun v4 v5 M6 => []) (fun v4 v5 M6 => M6) (fun v4 v5 M6 rec7 ih8 => ?_) fuel 0 0 M3
  refine r_iload_n (pc' := 15) hx (hd 10) rfl 2 rfl rfl ?_
  refine r_bipush (pc' := 17) (v := 15) hx (hd 11) (by decide) rfl ?_
  refine r_icmp_ge (tgt := 44) (pc' := 20) hx (hd 12) (by decide) (fun _ => ?_) rfl (fun _ => ?_)
  · skip
    refine r_iload_n (pc' := 45) hx (hd 27) rfl 1 rfl rfl ?_
    exact r_iret hx (hd 28) rfl rfl hz
  · skip
    refine r_iload_n (pc' := 21) hx (hd 13) rfl 1 rfl rfl ?_
    refine r_aload_n (pc' := 22) hx (hd 14) rfl 0 rfl rfl ?_
    refine r_iload_n (pc' := 23) hx (hd 15) rfl 2 rfl rfl ?_
    refine r_callVI (pc' := 26) (As := [.int v5]) (rest := [.int v4]) hx (hd 16) md_X12_isSeen mi_X12_isSeen ms_X12_isSeen ml_12_593 (cX12_isSeen (xl x) w hL t ht v5 M6) ht rfl (by decide) ⟨Nat.le_of_ble_eq_true rfl, Nat.le_of_ble_eq_true rfl⟩ rfl rfl (Nat.le_of_ble_eq_true rfl) (fun r10 => .int r10 :: [.int v4]) (fun _ => rfl) rfl (fun r10 M9 => ?_)
    refine r_jn1 36 (fun v11 => [(0, .ref t), (2, .int v5)]) (fun v11 => [.int v11, .int v4]) (fun v11 => M9) (fun v11 => ?_) (fun j12 hj13 => ?_)
    · skip
      refine r_ior (pc' := 37) hx (hd 23) rfl ?_
      refine r_nmI (fun v14 => ?_)
      refine r_istore_n (pc' := 38) (L' := [(1, .int v14), (0, .ref t), (2, .int v5)]) hx (hd 24) rfl (by decide) rfl rfl ?_
      refine r_iinc (pc' := 41) (v := 1) hx (hd 25) 2 rfl (by decide) (by decide) (fun v15 => [(2, .int v15), (1, .int v14), (0, .ref t)]) (fun _ => rfl) rfl (fun v15 => ?_)
      refine r_goto (tgt := 14) hx (hd 26) (by decide) ?_
      refine r_sub [2, 1, 0] rfl ?_
      exact ih8 v14 v15 M9
    refine r_if_eq (tgt := 35) (pc' := 29) hx (hd 17) (by decide) (fun _ => ?_) rfl (fun _ => ?_)
    · skip
      refine r_iconst (pc' := 36) (v := 0) hx (hd 22) (by decide) rfl ?_
      refine r_sub [0, 2] rfl ?_
      exact hj13 0
    · skip
      refine r_iconst (pc' := 30) (v := 1) hx (hd 18) (by decide) rfl ?_
      refine r_iload_n (pc' := 31) hx (hd 19) rfl 2 rfl rfl ?_
      refine r_ishl (pc' := 32) hx (hd 20) rfl ?_
      refine r_goto (tgt := 36) hx (hd 21) (by decide) ?_
      refine r_sub [0, 2] rfl ?_
      exact hj13 (1 <<< (v5 &&& 31))
abbrev yX12_canBe : MethodName := ({ cls := "CribbageRoomModel", name := "canBe", desc := "()I" } : Jvm.MethodName)
def tbX12_canBe : List (Nat × Instr × Nat) := [(0, .aload_n 0, 1), (1, .iconst 0, 1), (2, .putfield 188, 3), (5, .aload_n 0, 1), (6, .invokevirtual 554, 3), (9, .bipush 6, 2), (11, .if_icmp .ne 10, 3), (14, .aload_n 0, 1), (15, .invokevirtual 596, 3), (18, .goto 4, 3), (21, .iconst (-1), 1), (22, .ireturn, 1)]
theorem dX12_canBe : ∀ q ∈ tbX12_canBe, decode prog_14_method_122_code q.1 = .ok q.2 := by decide +kernel
set_option maxRecDepth 20000 in
theorem cX12_canBe (l : Launch) (w : WX) (hL : Lay w) (t : Nat) (ht : Wat w t 12 0) (M : Mem) : Ct l w yX12_canBe prog_14_method_122_code 1 (Option.some FieldType.int) 7 173 evIM emM [.ref t] M (FX12_canBe t M) := by
  refine ct_of (by decide) (Nat.le_of_ble_eq_true rfl) (fun x hl hx hb hz => ?_)
  subst hl
  have hd : ∀ i, DAt (xc x).code (tbX12_canBe[i]?) := fun i => by rw [hb]; exact dat_of dX12_canBe i
  show C x w (Qn x w evIM emM) 1 0 [(0, .ref t)] [] M (FX12_canBe t M)
  unfold FX12_canBe
  refine r_aload_n (pc' := 1) hx (hd 0) rfl 0 rfl rfl ?_
  refine r_iconst (pc' := 2) (v := 0) hx (hd 1) (by decide) rfl ?_
  refine r_putI (pc' := 5) hx (hd 2) fp_12_188 ht rfl (by decide) rfl (fun M1 => ?_)
  refine r_aload_n (pc' := 6) hx (hd 3) rfl 0 rfl rfl ?_
  refine r_callV (pc' := 9) (As := []) (rest := []) hx (hd 4) md_X12_heldOnes mi_X12_heldOnes ms_X12_heldOnes ml_12_554 (cX12_heldOnes (xl x) w hL t ht M1) ht rfl (by decide) ⟨Nat.le_of_ble_eq_true rfl, Nat.le_of_ble_eq_true rfl⟩ rfl rfl (Nat.le_of_ble_eq_true rfl) (fun r2 => .int r2 :: []) (fun _ => M1) (fun _ => ⟨rfl, rfl⟩) rfl (fun r2 _ => ?_)
  refine r_bipush (pc' := 11) (v := 6) hx (hd 5) (by decide) rfl ?_
  refine r_jn2 22 (fun v3 M4 => []) (fun v3 M4 => [.int v3]) (fun v3 M4 => M4) (fun v3 M4 => ?_) (fun j5 hj6 => ?_)
  · skip
    exact r_iret hx (hd 11) rfl rfl hz
  refine r_icmp_ne (tgt := 21) (pc' := 14) hx (hd 6) (by decide) (fun _ => ?_) rfl (fun _ => ?_)
  · skip
    refine r_iconst (pc' := 22) (v := (-1)) hx (hd 10) (by decide) rfl ?_
    refine r_sub [] rfl ?_
    exact hj6 (-1) M1
  · skip
    refine r_aload_n (pc' := 15) hx (hd 7) rfl 0 rfl rfl ?_
    refine r_callVI (pc' := 18) (As := []) (rest := []) hx (hd 8) md_X12_thatCanBe mi_X12_thatCanBe ms_X12_thatCanBe ml_12_596 (cX12_thatCanBe (xl x) w hL t ht M1) ht rfl (by decide) ⟨Nat.le_of_ble_eq_true rfl, Nat.le_of_ble_eq_true rfl⟩ rfl rfl (Nat.le_of_ble_eq_true rfl) (fun r8 => .int r8 :: []) (fun _ => rfl) rfl (fun r8 M7 => ?_)
    refine r_goto (tgt := 22) hx (hd 9) (by decide) ?_
    refine r_sub [] rfl ?_
    exact hj6 r8 M7
abbrev yX12_mostAlike : MethodName := ({ cls := "CribbageRoomModel", name := "mostAlike", desc := "(II)I" } : Jvm.MethodName)
def tbX12_mostAlike : List (Nat × Instr × Nat) := [(0, .iconst 0, 1), (1, .istore_n 3, 1), (2, .iload_n 3, 1), (3, .bipush 15, 2), (5, .if_icmp .ge 44, 3), (8, .aload_n 0, 1), (9, .iload_n 3, 1), (10, .invokevirtual 590, 3), (13, .aload_n 0, 1), (14, .getfield 134, 3), (17, .iconst 4, 1), (18, .iload_n 2, 1), (19, .iastore, 1), (20, .aload_n 0, 1), (21, .getfield 164, 3), (24, .iload_n 3, 1), (25, .iload_n 1, 1), (26, .iload_n 3, 1), (27, .invokestatic 462, 3), (30, .ifCond .eq 11, 3), (33, .aload_n 0, 1), (34, .iconst 0, 1), (35, .invokevirtual 484, 3), (38, .goto 4, 3), (41, .iconst (-1), 1), (42, .iastore, 1), (43, .iinc 3 1, 3), (46, .goto (-44), 3), (49, .iconst 0, 1), (50, .istore_n 3, 1), (51, .iconst 0, 1), (52, .istore 4, 2), (54, .iload 4, 2), (56, .bipush 15, 2), (58, .if_icmp .ge 79, 3), (61, .iconst 0, 1), (62, .istore 5, 2), (64, .iconst 0, 1), (65, .istore 6, 2), (67, .iload 6, 2), (69, .bipush 15, 2), (71, .if_icmp .ge 47, 3), (74, .iload 5, 2), (76, .aload_n 0, 1), (77, .getfield 164, 3), (80, .iload 4, 2), (82, .iaload, 1), (83, .iconst (-1), 1), (84, .if_icmp .eq 24, 3), (87, .aload_n 0, 1), (88, .getfield 164, 3), (91, .iload 6, 2), (93, .iaload, 1), (94, .aload_n 0, 1), (95, .getfield 164, 3), (98, .iload 4, 2), (100, .iaload, 1), (101, .if_icmp .ne 7, 3), (104, .iconst 1, 1), (105, .goto 4, 3), (108, .iconst 0, 1), (109, .iadd, 1), (110, .istore 5, 2), (112, .iinc 6 1, 3), (115, .goto (-48), 3), (118, .iload 5, 2), (120, .iload_n 3, 1), (121, .if_icmp .le 8, 3), (124, .iload 5, 2), (126, .goto 4, 3), (129, .iload_n 3, 1), (130, .istore_n 3, 1), (131, .iinc 4 1, 3), (134, .goto (-80), 3), (137, .iload_n 3, 1), (138, .ireturn, 1)]
theorem dX12_mostAlike : ∀ q ∈ tbX12_mostAlike, decode prog_14_method_123_code q.1 = .ok q.2 := by decide +kernel
set_option maxRecDepth 20000 in
theorem cX12_mostAlike (l : Launch) (w : WX) (hL : Lay w) (t : Nat) (ht : Wat w t 12 0) (p1 : Int32) (p2 : Int32) (M : Mem) : Ct l w yX12_mostAlike prog_14_method_123_code 7 (Option.some FieldType.int) 3 67 evIM emM [.ref t, .int p1, .int p2] M (FX12_mostAlike t p1 p2 M) := by
  refine ct_of (by decide) (Nat.le_of_ble_eq_true rfl) (fun x hl hx hb hz => ?_)
  subst hl
  have hd : ∀ i, DAt (xc x).code (tbX12_mostAlike[i]?) := fun i => by rw [hb]; exact dat_of dX12_mostAlike i
  show C x w (Qn x w evIM emM) 7 0 [(0, .ref t), (1, .int p1), (2, .int p2)] [] M (FX12_mostAlike t p1 p2 M)
  unfold FX12_mostAlike
  refine r_iconst (pc' := 1) (v := 0) hx (hd 0) (by decide) rfl ?_
  refine r_istore_n (pc' := 2) (L' := [(3, .int 0), (0, .ref t), (1, .int p1), (2, .int p2)]) hx (hd 1) rfl (by decide) rfl rfl ?_
  refine r_sub [1, 2, 3, 0] rfl ?_
  refine r_wl2 (fun v1 M2 => [(0, .ref t), (1, .int p1), (2, .int p2), (3, .int v1)]) (fun v1 M2 => []) (fun v1 M2 => M2) (fun v1 M2 rec3 ih4 => ?_) fuel 0 M
  refine r_iload_n (pc' := 3) hx (hd 2) rfl 3 rfl rfl ?_
  refine r_bipush (pc' := 5) (v := 15) hx (hd 3) (by decide) rfl ?_
  refine r_icmp_ge (tgt := 49) (pc' := 8) hx (hd 4) (by decide) (fun _ => ?_) rfl (fun _ => ?_)
  · skip
    refine r_iconst (pc' := 50) (v := 0) hx (hd 28) (by decide) rfl ?_
    refine r_istore_n (pc' := 51) (L' := [(3, .int 0), (0, .ref t), (1, .int p1), (2, .int p2)]) hx (hd 29) rfl (by decide) rfl rfl ?_
    refine r_iconst (pc' := 52) (v := 0) hx (hd 30) (by decide) rfl ?_
    refine r_istore (pc' := 54) (L' := [(4, .int 0), (3, .int 0), (0, .ref t), (1, .int p1), (2, .int p2)]) hx (hd 31) (by decide) rfl rfl ?_
    refine r_sub [2, 1, 0] rfl ?_
    refine r_wl2 (fun v5 v6 => [(0, .ref t), (3, .int v5), (4, .int v6)]) (fun v5 v6 => []) (fun v5 v6 => M2) (fun v5 v6 rec7 ih8 => ?_) fuel 0 0
    refine r_iload (pc' := 56) hx (hd 32) 2 rfl rfl ?_
    refine r_bipush (pc' := 58) (v := 15) hx (hd 33) (by decide) rfl ?_
    refine r_icmp_ge (tgt := 137) (pc' := 61) hx (hd 34) (by decide) (fun _ => ?_) rfl (fun _ => ?_)
    · skip
      refine r_iload_n (pc' := 138) hx (hd 74) rfl 1 rfl rfl ?_
      exact r_iret hx (hd 75) rfl rfl hz
    · skip
      refine r_iconst (pc' := 62) (v := 0) hx (hd 35) (by decide) rfl ?_
      refine r_istore (pc' := 64) (L' := [(5, .int 0), (0, .ref t), (3, .int v5), (4, .int v6)]) hx (hd 36) (by decide) rfl rfl ?_
      refine r_iconst (pc' := 65) (v := 0) hx (hd 37) (by decide) rfl ?_
      refine r_istore (pc' := 67) (L' := [(6, .int 0), (5, .int 0), (0, .ref t), (3, .int v5), (4, .int v6)]) hx (hd 38) (by decide) rfl rfl ?_
      refine r_sub [2, 3, 4, 1, 0] rfl ?_
      refine r_wl2 (fun v9 v10 => [(0, .ref t), (3, .int v5), (4, .int v6), (5, .int v9), (6, .int v10)]) (fun v9 v10 => []) (fun v9 v10 => M2) (fun v9 v10 rec11 ih12 => ?_) fuel 0 0
      refine r_iload (pc' := 69) hx (hd 39) 4 rfl rfl ?_
      refine r_bipush (pc' := 71) (v := 15) hx (hd 40) (by decide) rfl ?_
      refine r_icmp_ge (tgt := 118) (pc' := 74) hx (hd 41) (by decide) (fun _ => ?_) rfl (fun _ => ?_)
      · skip
        refine r_iload (pc' := 120) hx (hd 65) 3 rfl rfl ?_
        refine r_iload_n (pc' := 121) hx (hd 66) rfl 1 rfl rfl ?_
        refine r_jn1 130 (fun v13 => [(0, .ref t), (4, .int v6)]) (fun v13 => [.int v13]) (fun v13 => M2) (fun v13 => ?_) (fun j14 hj15 => ?_)
        · skip
          refine r_istore_n (pc' := 131) (L' := [(3, .int v13), (0, .ref t), (4, .int v6)]) hx (hd 71) rfl (by decide) rfl rfl ?_
          refine r_iinc (pc' := 134) (v := 1) hx (hd 72) 2 rfl (by decide) (by decide) (fun v16 => [(4, .int v16), (3, .int v13), (0, .ref t)]) (fun _ => rfl) rfl (fun v16 => ?_)
          refine r_goto (tgt := 54) hx (hd 73) (by decide) ?_
          refine r_sub [2, 1, 0] rfl ?_
          exact ih8 v13 v16
        refine r_icmp_le (tgt := 129) (pc' := 124) hx (hd 67) (by decide) (fun _ => ?_) rfl (fun _ => ?_)
        · skip
          refine r_iload_n (pc' := 130) hx (hd 70) rfl 1 rfl rfl ?_
          refine r_sub [0, 2] rfl ?_
          exact hj15 v5
        · skip
          refine r_iload (pc' := 126) hx (hd 68) 3 rfl rfl ?_
          refine r_goto (tgt := 130) hx (hd 69) (by decide) ?_
          refine r_sub [0, 2] rfl ?_
          exact hj15 v9
      · skip
        refine r_iload (pc' := 76) hx (hd 42) 3 rfl rfl ?_
        refine r_aload_n (pc' := 77) hx (hd 43) rfl 0 rfl rfl ?_
        refine r_get (pc' := 80) (v := .ref (t + 37)) hx (hd 44) fl_12_164 ht rfl (by decide) rfl ?_
        have h17 := hL.1 _ _ _ ht 58 37 20 15 rfl
        refine r_iload (pc' := 82) hx (hd 45) 2 rfl rfl ?_
        refine r_gd (fun h18 => ?_)
        refine r_iald (pc' := 83) (k := ix v6) hx (hd 46) h17 h18 rfl rfl ?_
        refine r_iconst (pc' := 84) (v := (-1)) hx (hd 47) (by decide) rfl ?_
        refine r_jn1 109 (fun v19 => [(0, .ref t), (3, .int v5), (4, .int v6), (6, .int v10)]) (fun v19 => [.int v19, .int v9]) (fun v19 => M2) (fun v19 => ?_) (fun j20 hj21 => ?_)
        · skip
          refine r_iadd (pc' := 110) hx (hd 61) rfl ?_
          refine r_nmI (fun v22 => ?_)
          refine r_istore (pc' := 112) (L' := [(5, .int v22), (0, .ref t), (3, .int v5), (4, .int v6), (6, .int v10)]) hx (hd 62) (by decide) rfl rfl ?_
          refine r_iinc (pc' := 115) (v := 1) hx (hd 63) 4 rfl (by decide) (by decide) (fun v23 => [(6, .int v23), (5, .int v22), (0, .ref t), (3, .int v5), (4, .int v6)]) (fun _ => rfl) rfl (fun v23 => ?_)
          refine r_goto (tgt := 67) hx (hd 64) (by decide) ?_
          refine r_sub [2, 3, 4, 1, 0] rfl ?_
          exact ih12 v22 v23
        refine r_jn0 108 ([(0, .ref t), (3, .int v5), (4, .int v6), (6, .int v10)]) ([.int v9]) (M2) (?_) (fun j24 hj25 => ?_)
        · skip
          refine r_iconst (pc' := 109) (v := 0) hx (hd 60) (by decide) rfl ?_
          exact hj21 0
        refine r_icmp_eq (tgt := 108) (pc' := 87) hx (hd 48) (by decide) (fun _ => ?_) rfl (fun _ => ?_)
        · skip
          refine r_sub [0, 1, 2, 4] rfl ?_
          exact hj25
        · skip
          refine r_aload_n (pc' := 88) hx (hd 49) rfl 0 rfl rfl ?_
          refine r_get (pc' := 91) (v := .ref (t + 37)) hx (hd 50) fl_12_164 ht rfl (by decide) rfl ?_
          have h26 := hL.1 _ _ _ ht 58 37 20 15 rfl
          refine r_iload (pc' := 93) hx (hd 51) 4 rfl rfl ?_
          refine r_gd (fun h27 => ?_)
          refine r_iald (pc' := 94) (k := ix v10) hx (hd 52) h26 h27 rfl rfl ?_
          refine r_aload_n (pc' := 95) hx (hd 53) rfl 0 rfl rfl ?_
          refine r_get (pc' := 98) (v := .ref (t + 37)) hx (hd 54) fl_12_164 ht rfl (by decide) rfl ?_
          have h28 := hL.1 _ _ _ ht 58 37 20 15 rfl
          refine r_iload (pc' := 100) hx (hd 55) 2 rfl rfl ?_
          refine r_gd (fun h29 => ?_)
          refine r_iald (pc' := 101) (k := ix v6) hx (hd 56) h28 h29 rfl rfl ?_
          refine r_icmp_ne (tgt := 108) (pc' := 104) hx (hd 57) (by decide) (fun _ => ?_) rfl (fun _ => ?_)
          · skip
            refine r_sub [0, 1, 2, 4] rfl ?_
            exact hj25
          · skip
            refine r_iconst (pc' := 105) (v := 1) hx (hd 58) (by decide) rfl ?_
            refine r_goto (tgt := 109) hx (hd 59) (by decide) ?_
            refine r_sub [0, 1, 2, 4] rfl ?_
            exact hj21 1
  · skip
    refine r_aload_n (pc' := 9) hx (hd 5) rfl 0 rfl rfl ?_
    refine r_iload_n (pc' := 10) hx (hd 6) rfl 3 rfl rfl ?_
    refine r_callVU (pc' := 13) (As := [.int v1]) (rest := []) hx (hd 7) md_X12_takeFourth mi_X12_takeFourth ms_X12_takeFourth ml_12_590 (cX12_takeFourth (xl x) w hL t ht v1 M2) ht rfl (by decide) ⟨Nat.le_of_ble_eq_true rfl, Nat.le_of_ble_eq_true rfl⟩ rfl rfl (Nat.le_of_ble_eq_true rfl) rfl (fun M30 => ?_)
    refine r_aload_n (pc' := 14) hx (hd 8) rfl 0 rfl rfl ?_
    refine r_get (pc' := 17) (v := .ref (t + 27)) hx (hd 9) fl_12_134 ht rfl (by decide) rfl ?_
    have h31 := hL.1 _ _ _ ht 47 27 20 5 rfl
    refine r_iconst (pc' := 18) (v := 4) hx (hd 10) (by decide) rfl ?_
    refine r_iload_n (pc' := 19) hx (hd 11) rfl 2 rfl rfl ?_
    refine r_iast (pc' := 20) (k := 4) hx (hd 12) h31 (by decide) (by decide) rfl (fun M32 => ?_)
    refine r_aload_n (pc' := 21) hx (hd 13) rfl 0 rfl rfl ?_
    refine r_get (pc' := 24) (v := .ref (t + 37)) hx (hd 14) fl_12_164 ht rfl (by decide) rfl ?_
    have h33 := hL.1 _ _ _ ht 58 37 20 15 rfl
    refine r_iload_n (pc' := 25) hx (hd 15) rfl 3 rfl rfl ?_
    refine r_iload_n (pc' := 26) hx (hd 16) rfl 1 rfl rfl ?_
    refine r_iload_n (pc' := 27) hx (hd 17) rfl 3 rfl rfl ?_
    refine r_callS (pc' := 30) (As := [.int p1, .int v1]) (rest := [.int v1, .ref (t + 37)]) hx (hd 18) md_X12_is mst_X12_is ml_12_462 (cX12_is (xl x) w hL p1 v1 M32) ⟨Nat.le_of_ble_eq_true rfl, Nat.le_of_ble_eq_true rfl⟩ rfl rfl (Nat.le_of_ble_eq_true rfl) (fun r34 => .int r34 :: [.int v1, .ref (t + 37)]) (fun _ => M32) (fun _ => ⟨rfl, rfl⟩) rfl (fun r34 _ => ?_)
    refine r_jn2 42 (fun v35 M36 => [(0, .ref t), (1, .int p1), (2, .int p2), (3, .int v1)]) (fun v35 M36 => [.int v35, .int v1, .ref (t + 37)]) (fun v35 M36 => M36) (fun v35 M36 => ?_) (fun j37 hj38 => ?_)
    · skip
      refine r_gd (fun h40 => ?_)
      refine r_iast (pc' := 43) (k := ix v1) hx (hd 25) h33 h40 rfl rfl (fun M39 => ?_)
      refine r_iinc (pc' := 46) (v := 1) hx (hd 26) 3 rfl (by decide) (by decide) (fun v41 => [(3, .int v41), (0, .ref t), (1, .int p1), (2, .int p2)]) (fun _ => rfl) rfl (fun v41 => ?_)
      refine r_goto (tgt := 2) hx (hd 27) (by decide) ?_
      refine r_sub [1, 2, 3, 0] rfl ?_
      exact ih4 v41 M39
    refine r_if_eq (tgt := 41) (pc' := 33) hx (hd 19) (by decide) (fun _ => ?_) rfl (fun _ => ?_)
    · skip
      refine r_iconst (pc' := 42) (v := (-1)) hx (hd 24) (by decide) rfl ?_
      exact hj38 (-1) M32
    · skip
      refine r_aload_n (pc' := 34) hx (hd 20) rfl 0 rfl rfl ?_
      refine r_iconst (pc' := 35) (v := 0) hx (hd 21) (by decide) rfl ?_
      refine r_callVI (pc' := 38) (As := [.int 0]) (rest := [.int v1, .ref (t + 37)]) hx (hd 22) md_X12_countFive mi_X12_countFive ms_X12_countFive ml_12_484 (cX12_countFive (xl x) w hL t ht 0 M32) ht rfl (by decide) ⟨Nat.le_of_ble_eq_true rfl, Nat.le_of_ble_eq_true rfl⟩ rfl rfl (Nat.le_of_ble_eq_true rfl) (fun r43 => .int r43 :: [.int v1, .ref (t + 37)]) (fun _ => rfl) rfl (fun r43 M42 => ?_)
      refine r_goto (tgt := 42) hx (hd 23) (by decide) ?_
      exact hj38 r43 M42
abbrev yX12_ask : MethodName := ({ cls := "CribbageRoomModel", name := "ask", desc := "(I)I" } : Jvm.MethodName)
def tbX12_ask : List (Nat × Instr × Nat) := [(0, .aload_n 0, 1), (1, .iconst 0, 1), (2, .putfield 188, 3), (5, .aload_n 0, 1), (6, .invokevirtual 554, 3), (9, .bipush 6, 2), (11, .if_icmp .ne 13, 3), (14, .iload_n 1, 1), (15, .i2l, 1), (16, .lconst 0, 1), (17, .lconst 1, 1), (18, .invokestatic 208, 3), (21, .ifCond .ne 5, 3), (24, .iconst (-1), 1), (25, .ireturn, 1), (26, .aload_n 0, 1), (27, .invokevirtual 596, 3), (30, .istore_n 2, 1), (31, .ldc_w 599, 3), (34, .istore_n 3, 1), (35, .iconst (-1), 1), (36, .istore 4, 2), (38, .iconst 0, 1), (39, .istore 5, 2), (41, .iload 5, 2), (43, .bipush 52, 2), (45, .if_icmp .ge 65, 3), (48, .iload_n 2, 1), (49, .ifCond .eq 61, 3), (52, .aload_n 0, 1), (53, .iload 5, 2), (55, .invokevirtual 261, 3), (58, .ifCond .eq 9, 3), (61, .ldc_w 599, 3), (64, .goto 10, 3), (67, .aload_n 0, 1), (68, .iload_n 2, 1), (69, .iload 5, 2), (71, .invokevirtual 600, 3), (74, .istore 6, 2), (76, .iload 6, 2), (78, .iload_n 3, 1), (79, .if_icmp .ge 8, 3), (82, .iload 5, 2), (84, .goto 5, 3), (87, .iload 4, 2), (89, .istore 4, 2), (91, .iload 6, 2), (93, .iload_n 3, 1), (94, .if_icmp .ge 8, 3), (97, .iload 6, 2), (99, .goto 4, 3), (102, .iload_n 3, 1), (103, .istore_n 3, 1), (104, .iinc 5 1, 3), (107, .goto (-66), 3), (110, .iload 4, 2), (112, .iconst (-1), 1), (113, .if_icmp .eq 7, 3), (116, .iload_n 1, 1), (117, .ifCond .ne 8, 3), (120, .iload 4, 2), (122, .goto 4, 3), (125, .iload_n 3, 1), (126, .ireturn, 1)]
theorem dX12_ask : ∀ q ∈ tbX12_ask, decode prog_14_method_124_code q.1 = .ok q.2 := by decide +kernel
set_option maxRecDepth 20000 in
theorem cX12_ask (l : Launch) (w : WX) (hL : Lay w) (t : Nat) (ht : Wat w t 12 0) (p1 : Int32) (M : Mem) : Ct l w yX12_ask prog_14_method_124_code 7 (Option.some FieldType.int) 7 173 evIM emM [.ref t, .int p1] M (FX12_ask t p1 M) := by
  refine ct_of (by decide) (Nat.le_of_ble_eq_true rfl) (fun x hl hx hb hz => ?_)
  subst hl
  have hd : ∀ i, DAt (xc x).code (tbX12_ask[i]?) := fun i => by rw [hb]; exact dat_of dX12_ask i
  show C x w (Qn x w evIM emM) 7 0 [(0, .ref t), (1, .int p1)] [] M (FX12_ask t p1 M)
  unfold FX12_ask
  refine r_aload_n (pc' := 1) hx (hd 0) rfl 0 rfl rfl ?_
  refine r_iconst (pc' := 2) (v := 0) hx (hd 1) (by decide) rfl ?_
  refine r_putI (pc' := 5) hx (hd 2) fp_12_188 ht rfl (by decide) rfl (fun M1 => ?_)
  refine r_aload_n (pc' := 6) hx (hd 3) rfl 0 rfl rfl ?_
  refine r_callV (pc' := 9) (As := []) (rest := []) hx (hd 4) md_X12_heldOnes mi_X12_heldOnes ms_X12_heldOnes ml_12_554 (cX12_heldOnes (xl x) w hL t ht M1) ht rfl (by decide) ⟨Nat.le_of_ble_eq_true rfl, Nat.le_of_ble_eq_true rfl⟩ rfl rfl (Nat.le_of_ble_eq_true rfl) (fun r2 => .int r2 :: []) (fun _ => M1) (fun _ => ⟨rfl, rfl⟩) rfl (fun r2 _ => ?_)
  refine r_bipush (pc' := 11) (v := 6) hx (hd 5) (by decide) rfl ?_
  refine r_jn0 24 ([]) ([]) (M1) (?_) (fun j3 hj4 => ?_)
  · skip
    refine r_iconst (pc' := 25) (v := (-1)) hx (hd 13) (by decide) rfl ?_
    exact r_iret hx (hd 14) rfl rfl hz
  refine r_icmp_ne (tgt := 24) (pc' := 14) hx (hd 6) (by decide) (fun _ => ?_) rfl (fun _ => ?_)
  · skip
    refine r_sub [] rfl ?_
    exact hj4
  · skip
    refine r_iload_n (pc' := 15) hx (hd 7) rfl 1 rfl rfl ?_
    refine r_i2l (pc' := 16) hx (hd 8) rfl ?_
    refine r_lconst (pc' := 17) (v := 0) hx (hd 9) (by decide) rfl ?_
    refine r_lconst (pc' := 18) (v := 1) hx (hd 10) (by decide) rfl ?_
    refine r_callS (pc' := 21) (As := [.long p1.toInt64, .long 0, .long 1]) (rest := []) hx (hd 11) md_X12_in mst_X12_in ml_12_208 (cX12_in (xl x) w hL (p1.toInt64) 0 1 M1) ⟨Nat.le_of_ble_eq_true rfl, Nat.le_of_ble_eq_true rfl⟩ rfl rfl (Nat.le_of_ble_eq_true rfl) (fun r5 => .int r5 :: []) (fun _ => M1) (fun _ => ⟨rfl, rfl⟩) rfl (fun r5 _ => ?_)
    refine r_if_ne (tgt := 26) (pc' := 24) hx (hd 12) (by decide) (fun _ => ?_) rfl (fun _ => ?_)
    · skip
      refine r_aload_n (pc' := 27) hx (hd 15) rfl 0 rfl rfl ?_
      refine r_callVI (pc' := 30) (As := []) (rest := []) hx (hd 16) md_X12_thatCanBe mi_X12_thatCanBe ms_X12_thatCanBe ml_12_596 (cX12_thatCanBe (xl x) w hL t ht M1) ht rfl (by decide) ⟨Nat.le_of_ble_eq_true rfl, Nat.le_of_ble_eq_true rfl⟩ rfl rfl (Nat.le_of_ble_eq_true rfl) (fun r7 => .int r7 :: []) (fun _ => rfl) rfl (fun r7 M6 => ?_)
      refine r_istore_n (pc' := 31) (L' := [(2, .int r7), (0, .ref t), (1, .int p1)]) hx (hd 17) rfl (by decide) rfl rfl ?_
      refine r_ldcw (pc' := 34) hx (hd 18) kc_12_599 rfl ?_
      refine r_istore_n (pc' := 35) (L' := [(3, .int 100000000), (2, .int r7), (0, .ref t), (1, .int p1)]) hx (hd 19) rfl (by decide) rfl rfl ?_
      refine r_iconst (pc' := 36) (v := (-1)) hx (hd 20) (by decide) rfl ?_
      refine r_istore (pc' := 38) (L' := [(4, .int (-1)), (3, .int 100000000), (2, .int r7), (0, .ref t), (1, .int p1)]) hx (hd 21) (by decide) rfl rfl ?_
      refine r_iconst (pc' := 39) (v := 0) hx (hd 22) (by decide) rfl ?_
      refine r_istore (pc' := 41) (L' := [(5, .int 0), (4, .int (-1)), (3, .int 100000000), (2, .int r7), (0, .ref t), (1, .int p1)]) hx (hd 23) (by decide) rfl rfl ?_
      refine r_sub [4, 5, 3, 2, 1, 0] rfl ?_
      refine r_wl4 (fun v8 v9 v10 M11 => [(0, .ref t), (1, .int p1), (2, .int r7), (3, .int v8), (4, .int v9), (5, .int v10)]) (fun v8 v9 v10 M11 => []) (fun v8 v9 v10 M11 => M11) (fun v8 v9 v10 M11 rec12 ih13 => ?_) fuel 100000000 (-1) 0 M6
      refine r_iload (pc' := 43) hx (hd 24) 5 rfl rfl ?_
      refine r_bipush (pc' := 45) (v := 52) hx (hd 25) (by decide) rfl ?_
      refine r_jn0 110 ([(1, .int p1), (3, .int v8), (4, .int v9)]) ([]) (M11) (?_) (fun j14 hj15 => ?_)
      · skip
        refine r_iload (pc' := 112) hx (hd 56) 2 rfl rfl ?_
        refine r_iconst (pc' := 113) (v := (-1)) hx (hd 57) (by decide) rfl ?_
        refine r_jn1 126 (fun v16 => []) (fun v16 => [.int v16]) (fun v16 => M11) (fun v16 => ?_) (fun j17 hj18 => ?_)
        · skip
          exact r_iret hx (hd 64) rfl rfl hz
        refine r_jn0 120 ([(4, .int v9)]) ([]) (M11) (?_) (fun j19 hj20 => ?_)
        · skip
          refine r_iload (pc' := 122) hx (hd 61) 0 rfl rfl ?_
          refine r_goto (tgt := 126) hx (hd 62) (by decide) ?_
          refine r_sub [] rfl ?_
          exact hj18 v9
        refine r_icmp_eq (tgt := 120) (pc' := 116) hx (hd 58) (by decide) (fun _ => ?_) rfl (fun _ => ?_)
        · skip
          refine r_sub [2] rfl ?_
          exact hj20
        · skip
          refine r_iload_n (pc' := 117) hx (hd 59) rfl 0 rfl rfl ?_
          refine r_if_ne (tgt := 125) (pc' := 120) hx (hd 60) (by decide) (fun _ => ?_) rfl (fun _ => ?_)
          · skip
            refine r_iload_n (pc' := 126) hx (hd 63) rfl 1 rfl rfl ?_
            refine r_sub [] rfl ?_
            exact hj18 v8
          · skip
            refine r_sub [2] rfl ?_
            exact hj20
      refine r_icmp_ge (tgt := 110) (pc' := 48) hx (hd 26) (by decide) (fun _ => ?_) rfl (fun _ => ?_)
      · skip
        refine r_sub [1, 3, 4] rfl ?_
        exact hj15
      · skip
        refine r_iload_n (pc' := 49) hx (hd 27) rfl 2 rfl rfl ?_
        refine r_if_eq (tgt := 110) (pc' := 52) hx (hd 28) (by decide) (fun _ => ?_) rfl (fun _ => ?_)
        · skip
          refine r_sub [1, 3, 4] rfl ?_
          exact hj15
        · skip
          refine r_aload_n (pc' := 53) hx (hd 29) rfl 0 rfl rfl ?_
          refine r_iload (pc' := 55) hx (hd 30) 5 rfl rfl ?_
          refine r_callV (pc' := 58) (As := [.int v10]) (rest := []) hx (hd 31) md_X12_isHeld mi_X12_isHeld ms_X12_isHeld ml_12_261 (cX12_isHeld (xl x) w hL t ht v10 M11) ht rfl (by decide) ⟨Nat.le_of_ble_eq_true rfl, Nat.le_of_ble_eq_true rfl⟩ rfl rfl (Nat.le_of_ble_eq_true rfl) (fun r21 => .int r21 :: []) (fun _ => M11) (fun _ => ⟨rfl, rfl⟩) rfl (fun r21 _ => ?_)
          refine r_jn2 74 (fun v22 M23 => [(0, .ref t), (1, .int p1), (2, .int r7), (3, .int v8), (4, .int v9), (5, .int v10)]) (fun v22 M23 => [.int v22]) (fun v22 M23 => M23) (fun v22 M23 => ?_) (fun j24 hj25 => ?_)
          · skip
            refine r_istore (pc' := 76) (L' := [(6, .int v22), (0, .ref t), (1, .int p1), (2, .int r7), (3, .int v8), (4, .int v9), (5, .int v10)]) hx (hd 39) (by decide) rfl rfl ?_
            refine r_iload (pc' := 78) hx (hd 40) 0 rfl rfl ?_
            refine r_iload_n (pc' := 79) hx (hd 41) rfl 4 rfl rfl ?_
            refine r_jn1 89 (fun v26 => [(0, .ref t), (1, .int p1), (2, .int r7), (3, .int v8), (5, .int v10), (6, .int v22)]) (fun v26 => [.int v26]) (fun v26 => M23) (fun v26 => ?_) (fun j27 hj28 => ?_)
            · skip
              refine r_istore (pc' := 91) (L' := [(4, .int v26), (0, .ref t), (1, .int p1), (2, .int r7), (3, .int v8), (5, .int v10), (6, .int v22)]) hx (hd 46) (by decide) rfl rfl ?_
              refine r_iload (pc' := 93) hx (hd 47) 6 rfl rfl ?_
              refine r_iload_n (pc' := 94) hx (hd 48) rfl 4 rfl rfl ?_
              refine r_jn1 103 (fun v29 => [(0, .ref t), (1, .int p1), (2, .int r7), (4, .int v26), (5, .int v10)]) (fun v29 => [.int v29]) (fun v29 => M23) (fun v29 => ?_) (fun j30 hj31 => ?_)
              · skip
                refine r_istore_n (pc' := 104) (L' := [(3, .int v29), (0, .ref t), (1, .int p1), (2, .int r7), (4, .int v26), (5, .int v10)]) hx (hd 53) rfl (by decide) rfl rfl ?_
                refine r_iinc (pc' := 107) (v := 1) hx (hd 54) 5 rfl (by decide) (by decide) (fun v32 => [(5, .int v32), (3, .int v29), (0, .ref t), (1, .int p1), (2, .int r7), (4, .int v26)]) (fun _ => rfl) rfl (fun v32 => ?_)
                refine r_goto (tgt := 41) hx (hd 55) (by decide) ?_
                refine r_sub [2, 3, 4, 1, 5, 0] rfl ?_
                exact ih13 v29 v26 v32 M23
              refine r_icmp_ge (tgt := 102) (pc' := 97) hx (hd 49) (by decide) (fun _ => ?_) rfl (fun _ => ?_)
              · skip
                refine r_iload_n (pc' := 103) hx (hd 52) rfl 4 rfl rfl ?_
                refine r_sub [1, 2, 3, 0, 5] rfl ?_
                exact hj31 v8
              · skip
                refine r_iload (pc' := 99) hx (hd 50) 6 rfl rfl ?_
                refine r_goto (tgt := 103) hx (hd 51) (by decide) ?_
                refine r_sub [1, 2, 3, 0, 5] rfl ?_
                exact hj31 v22
            refine r_icmp_ge (tgt := 87) (pc' := 82) hx (hd 42) (by decide) (fun _ => ?_) rfl (fun _ => ?_)
            · skip
              refine r_iload (pc' := 89) hx (hd 45) 5 rfl rfl ?_
              refine r_sub [1, 2, 3, 4, 6, 0] rfl ?_
              exact hj28 v9
            · skip
              refine r_iload (pc' := 84) hx (hd 43) 6 rfl rfl ?_
              refine r_goto (tgt := 89) hx (hd 44) (by decide) ?_
              refine r_sub [1, 2, 3, 4, 6, 0] rfl ?_
              exact hj28 v10
          refine r_if_eq (tgt := 67) (pc' := 61) hx (hd 32) (by decide) (fun _ => ?_) rfl (fun _ => ?_)
          · skip
            refine r_aload_n (pc' := 68) hx (hd 35) rfl 0 rfl rfl ?_
            refine r_iload_n (pc' := 69) hx (hd 36) rfl 2 rfl rfl ?_
            refine r_iload (pc' := 71) hx (hd 37) 5 rfl rfl ?_
            refine r_callVI (pc' := 74) (As := [.int r7, .int v10]) (rest := []) hx (hd 38) md_X12_mostAlike mi_X12_mostAlike ms_X12_mostAlike ml_12_600 (cX12_mostAlike (xl x) w hL t ht r7 v10 M11) ht rfl (by decide) ⟨Nat.le_of_ble_eq_true rfl, Nat.le_of_ble_eq_true rfl⟩ rfl rfl (Nat.le_of_ble_eq_true rfl) (fun r34 => .int r34 :: []) (fun _ => rfl) rfl (fun r34 M33 => ?_)
            exact hj25 r34 M33
          · skip
            refine r_ldcw (pc' := 64) hx (hd 33) kc_12_599 rfl ?_
            refine r_goto (tgt := 74) hx (hd 34) (by decide) ?_
            exact hj25 100000000 M11
    · skip
      refine r_sub [] rfl ?_
      exact hj4
abbrev yX12_few : MethodName := ({ cls := "CribbageRoomModel", name := "few", desc := "(II)J" } : Jvm.MethodName)
def tbX12_few : List (Nat × Instr × Nat) := [(0, .aload_n 0, 1), (1, .iconst 0, 1), (2, .putfield 188, 3), (5, .iload_n 1, 1), (6, .i2l, 1), (7, .lconst 1, 1), (8, .ldc2_w 320, 3), (11, .invokestatic 208, 3), (14, .ifCond .eq 15, 3), (17, .iload_n 2, 1), (18, .i2l, 1), (19, .lconst 0, 1), (20, .ldc2_w 603, 3), (23, .invokestatic 208, 3), (26, .ifCond .ne 7, 3), (29, .ldc2_w 297, 3), (32, .lreturn, 1), (33, .iconst 0, 1), (34, .istore_n 3, 1), (35, .iload_n 3, 1), (36, .bipush 21, 2), (38, .if_icmp .ge 26, 3), (41, .aload_n 0, 1), (42, .getfield 167, 3), (45, .iload_n 3, 1), (46, .iload_n 3, 1), (47, .ifCond .ne 9, 3), (50, .ldc2_w 605, 3), (53, .goto 4, 3), (56, .lconst 0, 1), (57, .lastore, 1), (58, .iinc 3 1, 3), (61, .goto (-26), 3), (64, .aload_n 0, 1), (65, .getfield 13, 3), (68, .iconst 5, 1), (69, .iaload, 1), (70, .istore_n 3, 1), (71, .iconst 0, 1), (72, .istore 4, 2), (74, .iload 4, 2), (76, .iload_n 2, 1), (77, .if_icmp .ge 74, 3), (80, .iload_n 1, 1), (81, .iconst 1, 1), (82, .isub, 1), (83, .istore 5, 2), (85, .iload 5, 2), (87, .ifCond .lt 58, 3), (90, .aload_n 0, 1), (91, .getfield 167, 3), (94, .iload 5, 2), (96, .laload, 1), (97, .lstore 6, 2), (99, .aload_n 0, 1), (100, .getfield 167, 3), (103, .iload 5, 2), (105, .lload 6, 2), (107, .bipush 10, 2), (109, .iload_n 3, 1), (110, .isub, 1), (111, .i2l, 1), (112, .lmul, 1), (113, .ldc2_w 244, 3), (116, .ldiv, 1), (117, .lastore, 1), (118, .aload_n 0, 1), (119, .getfield 167, 3), (122, .iload 5, 2), (124, .iconst 1, 1), (125, .iadd, 1), (126, .dup2, 1), (127, .laload, 1), (128, .lload 6, 2), (130, .iload_n 3, 1), (131, .i2l, 1), (132, .lmul, 1), (133, .ldc2_w 244, 3), (136, .ldiv, 1), (137, .ladd, 1), (138, .lastore, 1), (139, .iinc 5 (-1), 3), (142, .goto (-57), 3), (145, .iinc 4 1, 3), (148, .goto (-74), 3), (151, .lconst 0, 1), (152, .lstore 4, 2), (154, .iconst 0, 1), (155, .istore 6, 2), (157, .iload 6, 2), (159, .iload_n 1, 1), (160, .if_icmp .ge 21, 3), (163, .lload 4, 2), (165, .aload_n 0, 1), (166, .getfield 167, 3), (169, .iload 6, 2), (171, .laload, 1), (172, .ladd, 1), (173, .lstore 4, 2), (175, .iinc 6 1, 3), (178, .goto (-21), 3), (181, .lload 4, 2), (183, .lreturn, 1)]
theorem dX12_few : ∀ q ∈ tbX12_few, decode prog_14_method_125_code q.1 = .ok q.2 := by decide +kernel
set_option maxRecDepth 20000 in
theorem cX12_few (l : Launch) (w : WX) (hL : Lay w) (t : Nat) (ht : Wat w t 12 0) (p1 : Int32) (p2 : Int32) (M : Mem) : Ct l w yX12_few prog_14_method_125_code 8 (Option.some FieldType.long) 1 25 evJM emM [.ref t, .int p1, .int p2] M (FX12_few t p1 p2 M) := by
  refine ct_of (by decide) (Nat.le_of_ble_eq_true rfl) (fun x hl hx hb hz => ?_)
  subst hl
  have hd : ∀ i, DAt (xc x).code (tbX12_few[i]?) := fun i => by rw [hb]; exact dat_of dX12_few i
  show C x w (Qn x w evJM emM) 8 0 [(0, .ref t), (1, .int p1), (2, .int p2)] [] M (FX12_few t p1 p2 M)
  unfold FX12_few
  refine r_aload_n (pc' := 1) hx (hd 0) rfl 0 rfl rfl ?_
  refine r_iconst (pc' := 2) (v := 0) hx (hd 1) (by decide) rfl ?_
  refine r_putI (pc' := 5) hx (hd 2) fp_12_188 ht rfl (by decide) rfl (fun M1 => ?_)
  refine r_iload_n (pc' := 6) hx (hd 3) rfl 1 rfl rfl ?_
  refine r_i2l (pc' := 7) hx (hd 4) rfl ?_
  refine r_lconst (pc' := 8) (v := 1) hx (hd 5) (by decide) rfl ?_
  refine r_ldc2 (pc' := 11) hx (hd 6) kc_12_320 rfl ?_
  refine r_callS (pc' := 14) (As := [.long p1.toInt64, .long 1, .long 20]) (rest := []) hx (hd 7) md_X12_in mst_X12_in ml_12_208 (cX12_in (xl x) w hL (p1.toInt64) 1 20 M1) ⟨Nat.le_of_ble_eq_true rfl, Nat.le_of_ble_eq_true rfl⟩ rfl rfl (Nat.le_of_ble_eq_true rfl) (fun r2 => .int r2 :: []) (fun _ => M1) (fun _ => ⟨rfl, rfl⟩) rfl (fun r2 _ => ?_)
  refine r_jn0 29 ([]) ([]) (M1) (?_) (fun j3 hj4 => ?_)
  · skip
    refine r_ldc2 (pc' := 32) hx (hd 15) kc_12_297 rfl ?_
    exact r_lret hx (hd 16) rfl rfl hz
  refine r_if_eq (tgt := 29) (pc' := 17) hx (hd 8) (by decide) (fun _ => ?_) rfl (fun _ => ?_)
  · skip
    refine r_sub [] rfl ?_
    exact hj4
  · skip
    refine r_iload_n (pc' := 18) hx (hd 9) rfl 2 rfl rfl ?_
    refine r_i2l (pc' := 19) hx (hd 10) rfl ?_
    refine r_lconst (pc' := 20) (v := 0) hx (hd 11) (by decide) rfl ?_
    refine r_ldc2 (pc' := 23) hx (hd 12) kc_12_603 rfl ?_
    refine r_callS (pc' := 26) (As := [.long p2.toInt64, .long 0, .long 99]) (rest := []) hx (hd 13) md_X12_in mst_X12_in ml_12_208 (cX12_in (xl x) w hL (p2.toInt64) 0 99 M1) ⟨Nat.le_of_ble_eq_true rfl, Nat.le_of_ble_eq_true rfl⟩ rfl rfl (Nat.le_of_ble_eq_true rfl) (fun r5 => .int r5 :: []) (fun _ => M1) (fun _ => ⟨rfl, rfl⟩) rfl (fun r5 _ => ?_)
    refine r_if_ne (tgt := 33) (pc' := 29) hx (hd 14) (by decide) (fun _ => ?_) rfl (fun _ => ?_)
    · skip
      refine r_iconst (pc' := 34) (v := 0) hx (hd 17) (by decide) rfl ?_
      refine r_istore_n (pc' := 35) (L' := [(3, .int 0), (0, .ref t), (1, .int p1), (2, .int p2)]) hx (hd 18) rfl (by decide) rfl rfl ?_
      refine r_sub [1, 2, 3, 0] rfl ?_
      refine r_wl2 (fun v6 M7 => [(0, .ref t), (1, .int p1), (2, .int p2), (3, .int v6)]) (fun v6 M7 => []) (fun v6 M7 => M7) (fun v6 M7 rec8 ih9 => ?_) fuel 0 M1
      refine r_iload_n (pc' := 36) hx (hd 19) rfl 3 rfl rfl ?_
      refine r_bipush (pc' := 38) (v := 21) hx (hd 20) (by decide) rfl ?_
      refine r_icmp_ge (tgt := 64) (pc' := 41) hx (hd 21) (by decide) (fun _ => ?_) rfl (fun _ => ?_)
      · skip
        refine r_aload_n (pc' := 65) hx (hd 33) rfl 0 rfl rfl ?_
        refine r_get (pc' := 68) (v := .ref (t + 2)) hx (hd 34) fl_12_13 ht rfl (by decide) rfl ?_
        have h10 := hL.1 _ _ _ ht 3 2 20 5594 rfl
        refine r_iconst (pc' := 69) (v := 5) hx (hd 35) (by decide) rfl ?_
        refine r_iald (pc' := 70) (k := 5) hx (hd 36) h10 (by decide) (by decide) rfl ?_
        refine r_nmI (fun v11 => ?_)
        refine r_istore_n (pc' := 71) (L' := [(3, .int v11), (0, .ref t), (1, .int p1), (2, .int p2)]) hx (hd 37) rfl (by decide) rfl rfl ?_
        refine r_iconst (pc' := 72) (v := 0) hx (hd 38) (by decide) rfl ?_
        refine r_istore (pc' := 74) (L' := [(4, .int 0), (3, .int v11), (0, .ref t), (1, .int p1), (2, .int p2)]) hx (hd 39) (by decide) rfl rfl ?_
        refine r_sub [2, 3, 4, 1, 0] rfl ?_
        refine r_wl2 (fun v12 M13 => [(0, .ref t), (1, .int p1), (2, .int p2), (3, .int v11), (4, .int v12)]) (fun v12 M13 => []) (fun v12 M13 => M13) (fun v12 M13 rec14 ih15 => ?_) fuel 0 M7
        refine r_iload (pc' := 76) hx (hd 40) 4 rfl rfl ?_
        refine r_iload_n (pc' := 77) hx (hd 41) rfl 2 rfl rfl ?_
        refine r_icmp_ge (tgt := 151) (pc' := 80) hx (hd 42) (by decide) (fun _ => ?_) rfl (fun _ => ?_)
        · skip
          refine r_lconst (pc' := 152) (v := 0) hx (hd 85) (by decide) rfl ?_
          refine r_lstore (pc' := 154) (L' := [(4, .long 0), (0, .ref t), (1, .int p1), (2, .int p2), (3, .int v11)]) hx (hd 86) (by decide) rfl rfl ?_
          refine r_iconst (pc' := 155) (v := 0) hx (hd 87) (by decide) rfl ?_
          refine r_istore (pc' := 157) (L' := [(6, .int 0), (4, .long 0), (0, .ref t), (1, .int p1), (2, .int p2), (3, .int v11)]) hx (hd 88) (by decide) rfl rfl ?_
          refine r_sub [2, 3, 1, 0] rfl ?_
          refine r_wl2 (fun v16 v17 => [(0, .ref t), (1, .int p1), (4, .long v16), (6, .int v17)]) (fun v16 v17 => []) (fun v16 v17 => M13) (fun v16 v17 rec18 ih19 => ?_) fuel 0 0
          refine r_iload (pc' := 159) hx (hd 89) 3 rfl rfl ?_
          refine r_iload_n (pc' := 160) hx (hd 90) rfl 1 rfl rfl ?_
          refine r_icmp_ge (tgt := 181) (pc' := 163) hx (hd 91) (by decide) (fun _ => ?_) rfl (fun _ => ?_)
          · skip
            refine r_lload (pc' := 183) hx (hd 101) 2 rfl rfl ?_
            exact r_lret hx (hd 102) rfl rfl hz
          · skip
            refine r_lload (pc' := 165) hx (hd 92) 2 rfl rfl ?_
            refine r_aload_n (pc' := 166) hx (hd 93) rfl 0 rfl rfl ?_
            refine r_get (pc' := 169) (v := .ref (t + 38)) hx (hd 94) fl_12_167 ht rfl (by decide) rfl ?_
            have h20 := hL.1 _ _ _ ht 59 38 21 21 rfl
            refine r_iload (pc' := 171) hx (hd 95) 3 rfl rfl ?_
            refine r_gd (fun h21 => ?_)
            refine r_lald (pc' := 172) (k := ix v17) hx (hd 96) h20 h21 rfl rfl ?_
            refine r_ladd (pc' := 173) hx (hd 97) rfl ?_
            refine r_nmJ (fun v22 => ?_)
            refine r_lstore (pc' := 175) (L' := [(4, .long v22), (0, .ref t), (1, .int p1), (6, .int v17)]) hx (hd 98) (by decide) rfl rfl ?_
            refine r_iinc (pc' := 178) (v := 1) hx (hd 99) 3 rfl (by decide) (by decide) (fun v23 => [(6, .int v23), (4, .long v22), (0, .ref t), (1, .int p1)]) (fun _ => rfl) rfl (fun v23 => ?_)
            refine r_goto (tgt := 157) hx (hd 100) (by decide) ?_
            refine r_sub [2, 3, 1, 0] rfl ?_
            exact ih19 v22 v23
        · skip
          refine r_iload_n (pc' := 81) hx (hd 43) rfl 1 rfl rfl ?_
          refine r_iconst (pc' := 82) (v := 1) hx (hd 44) (by decide) rfl ?_
          refine r_isub (pc' := 83) hx (hd 45) rfl ?_
          refine r_nmI (fun v24 => ?_)
          refine r_istore (pc' := 85) (L' := [(5, .int v24), (0, .ref t), (1, .int p1), (2, .int p2), (3, .int v11), (4, .int v12)]) hx (hd 46) (by decide) rfl rfl ?_
          refine r_sub [1, 2, 3, 4, 5, 0] rfl ?_
          refine r_wl2 (fun v25 M26 => [(0, .ref t), (1, .int p1), (2, .int p2), (3, .int v11), (4, .int v12), (5, .int v25)]) (fun v25 M26 => []) (fun v25 M26 => M26) (fun v25 M26 rec27 ih28 => ?_) fuel v24 M13
          refine r_iload (pc' := 87) hx (hd 47) 5 rfl rfl ?_
          refine r_if_lt (tgt := 145) (pc' := 90) hx (hd 48) (by decide) (fun _ => ?_) rfl (fun _ => ?_)
          · skip
            refine r_iinc (pc' := 148) (v := 1) hx (hd 83) 4 rfl (by decide) (by decide) (fun v29 => [(4, .int v29), (0, .ref t), (1, .int p1), (2, .int p2), (3, .int v11), (5, .int v25)]) (fun _ => rfl) rfl (fun v29 => ?_)
            refine r_goto (tgt := 74) hx (hd 84) (by decide) ?_
            refine r_sub [1, 2, 3, 4, 0] rfl ?_
            exact ih15 v29 M26
          · skip
            refine r_aload_n (pc' := 91) hx (hd 49) rfl 0 rfl rfl ?_
            refine r_get (pc' := 94) (v := .ref (t + 38)) hx (hd 50) fl_12_167 ht rfl (by decide) rfl ?_
            have h30 := hL.1 _ _ _ ht 59 38 21 21 rfl
            refine r_iload (pc' := 96) hx (hd 51) 5 rfl rfl ?_
            refine r_gd (fun h31 => ?_)
            refine r_lald (pc' := 97) (k := ix v25) hx (hd 52) h30 h31 rfl rfl ?_
            refine r_nmJ (fun v32 => ?_)
            refine r_lstore (pc' := 99) (L' := [(6, .long v32), (0, .ref t), (1, .int p1), (2, .int p2), (3, .int v11), (4, .int v12), (5, .int v25)]) hx (hd 53) (by decide) rfl rfl ?_
            refine r_aload_n (pc' := 100) hx (hd 54) rfl 1 rfl rfl ?_
            refine r_get (pc' := 103) (v := .ref (t + 38)) hx (hd 55) fl_12_167 ht rfl (by decide) rfl ?_
            have h33 := hL.1 _ _ _ ht 59 38 21 21 rfl
            refine r_iload (pc' := 105) hx (hd 56) 6 rfl rfl ?_
            refine r_lload (pc' := 107) hx (hd 57) 0 rfl rfl ?_
            refine r_bipush (pc' := 109) (v := 10) hx (hd 58) (by decide) rfl ?_
            refine r_iload_n (pc' := 110) hx (hd 59) rfl 4 rfl rfl ?_
            refine r_isub (pc' := 111) hx (hd 60) rfl ?_
            refine r_i2l (pc' := 112) hx (hd 61) rfl ?_
            refine r_lmul (pc' := 113) hx (hd 62) rfl ?_
            refine r_ldc2 (pc' := 116) hx (hd 63) kc_12_244 rfl ?_
            refine r_ldiv (pc' := 117) hx (hd 64) (by decide) rfl ?_
            refine r_gd (fun h35 => ?_)
            refine r_last (pc' := 118) (k := ix v25) hx (hd 65) h33 h35 rfl rfl (fun M34 => ?_)
            refine r_aload_n (pc' := 119) hx (hd 66) rfl 1 rfl rfl ?_
            refine r_get (pc' := 122) (v := .ref (t + 38)) hx (hd 67) fl_12_167 ht rfl (by decide) rfl ?_
            have h36 := hL.1 _ _ _ ht 59 38 21 21 rfl
            refine r_iload (pc' := 124) hx (hd 68) 6 rfl rfl ?_
            refine r_iconst (pc' := 125) (v := 1) hx (hd 69) (by decide) rfl ?_
            refine r_iadd (pc' := 126) hx (hd 70) rfl ?_
            refine r_dup2 (pc' := 127) hx (hd 71) rfl rfl rfl ?_
            refine r_gd (fun h37 => ?_)
            refine r_lald (pc' := 128) (k := ix (v25 + 1)) hx (hd 72) h36 h37 rfl rfl ?_
            refine r_lload (pc' := 130) hx (hd 73) 0 rfl rfl ?_
            refine r_iload_n (pc' := 131) hx (hd 74) rfl 4 rfl rfl ?_
            refine r_i2l (pc' := 132) hx (hd 75) rfl ?_
            refine r_lmul (pc' := 133) hx (hd 76) rfl ?_
            refine r_ldc2 (pc' := 136) hx (hd 77) kc_12_244 rfl ?_
            refine r_ldiv (pc' := 137) hx (hd 78) (by decide) rfl ?_
            refine r_ladd (pc' := 138) hx (hd 79) rfl ?_
            refine r_gd (fun h39 => ?_)
            refine r_last (pc' := 139) (k := ix (v25 + 1)) hx (hd 80) h36 h39 rfl rfl (fun M38 => ?_)
            refine r_iinc (pc' := 142) (v := (-1)) hx (hd 81) 6 rfl (by decide) (by decide) (fun v40 => [(5, .int v40), (6, .long v32), (0, .ref t), (1, .int p1), (2, .int p2), (3, .int v11), (4, .int v12)]) (fun _ => rfl) rfl (fun v40 => ?_)
            refine r_goto (tgt := 85) hx (hd 82) (by decide) ?_
            refine r_sub [2, 3, 4, 5, 6, 0] rfl ?_
            exact ih28 v40 M38
      · skip
        refine r_aload_n (pc' := 42) hx (hd 22) rfl 0 rfl rfl ?_
        refine r_get (pc' := 45) (v := .ref (t + 38)) hx (hd 23) fl_12_167 ht rfl (by decide) rfl ?_
        have h41 := hL.1 _ _ _ ht 59 38 21 21 rfl
        refine r_iload_n (pc' := 46) hx (hd 24) rfl 3 rfl rfl ?_
        refine r_iload_n (pc' := 47) hx (hd 25) rfl 3 rfl rfl ?_
        refine r_jn1 57 (fun v42 => [(0, .ref t), (1, .int p1), (2, .int p2), (3, .int v6)]) (fun v42 => [.long v42, .int v6, .ref (t + 38)]) (fun v42 => M7) (fun v42 => ?_) (fun j43 hj44 => ?_)
        · skip
          refine r_gd (fun h46 => ?_)
          refine r_last (pc' := 58) (k := ix v6) hx (hd 30) h41 h46 rfl rfl (fun M45 => ?_)
          refine r_iinc (pc' := 61) (v := 1) hx (hd 31) 3 rfl (by decide) (by decide) (fun v47 => [(3, .int v47), (0, .ref t), (1, .int p1), (2, .int p2)]) (fun _ => rfl) rfl (fun v47 => ?_)
          refine r_goto (tgt := 35) hx (hd 32) (by decide) ?_
          refine r_sub [1, 2, 3, 0] rfl ?_
          exact ih9 v47 M45
        refine r_if_ne (tgt := 56) (pc' := 50) hx (hd 26) (by decide) (fun _ => ?_) rfl (fun _ => ?_)
        · skip
          refine r_lconst (pc' := 57) (v := 0) hx (hd 29) (by decide) rfl ?_
          exact hj44 0
        · skip
          refine r_ldc2 (pc' := 53) hx (hd 27) kc_12_605 rfl ?_
          refine r_goto (tgt := 57) hx (hd 28) (by decide) ?_
          exact hj44 1000000000000
    · skip
      refine r_sub [] rfl ?_
      exact hj4
abbrev yX12_readSum : MethodName := ({ cls := "CribbageRoomModel", name := "readSum", desc := "(I)V" } : Jvm.MethodName)
def tbX12_readSum : List (Nat × Instr × Nat) := [(0, .aload_n 0, 1), (1, .getfield 179, 3), (4, .iload_n 1, 1), (5, .aload_n 0, 1), (6, .getfield 307, 3), (9, .iastore, 1), (10, .aload_n 0, 1), (11, .getfield 270, 3), (14, .ifCond .ne 8, 3), (17, .aload_n 0, 1), (18, .iconst 0, 1), (19, .invokevirtual 404, 3), (22, .aload_n 0, 1), (23, .getfield 179, 3), (26, .iload_n 1, 1), (27, .iconst 1, 1), (28, .iadd, 1), (29, .aload_n 0, 1), (30, .getfield 307, 3), (33, .iastore, 1), (34, .return_, 1)]
theorem dX12_readSum : ∀ q ∈ tbX12_readSum, decode prog_14_method_126_code q.1 = .ok q.2 := by decide +kernel
set_option maxRecDepth 20000 in
theorem cX12_readSum (l : Launch) (w : WX) (hL : Lay w) (t : Nat) (ht : Wat w t 12 0) (p1 : Int32) (M : Mem) : Ct l w yX12_readSum prog_14_method_126_code 2 (Option.none : Option FieldType) 7 151 evU emU [.ref t, .int p1] M (FX12_readSum t p1 M) := by
  refine ct_of (by decide) (Nat.le_of_ble_eq_true rfl) (fun x hl hx hb hz => ?_)
  subst hl
  have hd : ∀ i, DAt (xc x).code (tbX12_readSum[i]?) := fun i => by rw [hb]; exact dat_of dX12_readSum i
  show C x w (Qn x w evU emU) 2 0 [(0, .ref t), (1, .int p1)] [] M (FX12_readSum t p1 M)
  unfold FX12_readSum
  refine r_aload_n (pc' := 1) hx (hd 0) rfl 0 rfl rfl ?_
  refine r_get (pc' := 4) (v := .ref (t + 40)) hx (hd 1) fl_12_179 ht rfl (by decide) rfl ?_
  have h1 := hL.1 _ _ _ ht 61 40 20 96 rfl
  refine r_iload_n (pc' := 5) hx (hd 2) rfl 1 rfl rfl ?_
  refine r_aload_n (pc' := 6) hx (hd 3) rfl 0 rfl rfl ?_
  refine r_get (pc' := 9) (v := .int (mI M t 23)) hx (hd 4) fl_12_307 ht rfl (by decide) rfl ?_
  refine r_gd (fun h3 => ?_)
  refine r_iast (pc' := 10) (k := ix p1) hx (hd 5) h1 h3 rfl rfl (fun M2 => ?_)
  refine r_aload_n (pc' := 11) hx (hd 6) rfl 0 rfl rfl ?_
  refine r_get (pc' := 14) (v := .int (mI M2 t 19)) hx (hd 7) fl_12_270 ht rfl (by decide) rfl ?_
  refine r_jn1 22 (fun M4 => [(0, .ref t), (1, .int p1)]) (fun M4 => []) (fun M4 => M4) (fun M4 => ?_) (fun j5 hj6 => ?_)
  · skip
    refine r_aload_n (pc' := 23) hx (hd 12) rfl 0 rfl rfl ?_
    refine r_get (pc' := 26) (v := .ref (t + 40)) hx (hd 13) fl_12_179 ht rfl (by decide) rfl ?_
    have h7 := hL.1 _ _ _ ht 61 40 20 96 rfl
    refine r_iload_n (pc' := 27) hx (hd 14) rfl 1 rfl rfl ?_
    refine r_iconst (pc' := 28) (v := 1) hx (hd 15) (by decide) rfl ?_
    refine r_iadd (pc' := 29) hx (hd 16) rfl ?_
    refine r_aload_n (pc' := 30) hx (hd 17) rfl 0 rfl rfl ?_
    refine r_get (pc' := 33) (v := .int (mI M4 t 23)) hx (hd 18) fl_12_307 ht rfl (by decide) rfl ?_
    refine r_gd (fun h9 => ?_)
    refine r_iast (pc' := 34) (k := ix (p1 + 1)) hx (hd 19) h7 h9 rfl rfl (fun M8 => ?_)
    exact r_vret hx (hd 20) rfl rfl hz
  refine r_if_ne (tgt := 22) (pc' := 17) hx (hd 8) (by decide) (fun _ => ?_) rfl (fun _ => ?_)
  · skip
    exact hj6 M2
  · skip
    refine r_aload_n (pc' := 18) hx (hd 9) rfl 0 rfl rfl ?_
    refine r_iconst (pc' := 19) (v := 0) hx (hd 10) (by decide) rfl ?_
    refine r_callVU (pc' := 22) (As := [.int 0]) (rest := []) hx (hd 11) md_X12_readExpression mi_X12_readExpression ms_X12_readExpression ml_12_404 (cX12_readExpression (xl x) w hL t ht 0 M2) ht rfl (by decide) ⟨Nat.le_of_ble_eq_true rfl, Nat.le_of_ble_eq_true rfl⟩ rfl rfl (Nat.le_of_ble_eq_true rfl) rfl (fun M10 => ?_)
    exact hj6 M10
abbrev yX12_readOrder : MethodName := ({ cls := "CribbageRoomModel", name := "readOrder", desc := "()V" } : Jvm.MethodName)
def tbX12_readOrder : List (Nat × Instr × Nat) := [(0, .iconst (-1), 1), (1, .istore_n 1, 1), (2, .iconst 0, 1), (3, .istore_n 2, 1), (4, .iload_n 2, 1), (5, .iconst 4, 1), (6, .if_icmp .ge 28, 3), (9, .aload_n 0, 1), (10, .aload_n 0, 1), (11, .getfield 176, 3), (14, .iload_n 2, 1), (15, .laload, 1), (16, .invokevirtual 328, 3), (19, .ifCond .eq 7, 3), (22, .iload_n 2, 1), (23, .goto 4, 3), (26, .iload_n 1, 1), (27, .istore_n 1, 1), (28, .iinc 2 1, 3), (31, .goto (-27), 3), (34, .aload_n 0, 1), (35, .iload_n 1, 1), (36, .iconst (-1), 1), (37, .if_icmp .eq 16, 3), (40, .aload_n 0, 1), (41, .getfield 401, 3), (44, .bipush 12, 2), (46, .if_icmp .ge 7, 3), (49, .iconst 1, 1), (50, .goto 4, 3), (53, .iconst 0, 1), (54, .invokevirtual 303, 3), (57, .aload_n 0, 1), (58, .getfield 270, 3), (61, .ifCond .eq 4, 3), (64, .return_, 1), (65, .bipush 8, 2), (67, .aload_n 0, 1), (68, .getfield 401, 3), (71, .imul, 1), (72, .istore_n 2, 1), (73, .aload_n 0, 1), (74, .dup, 1), (75, .getfield 401, 3), (78, .iconst 1, 1), (79, .iadd, 1), (80, .putfield 401, 3), (83, .iconst 0, 1), (84, .istore_n 3, 1), (85, .iload_n 3, 1), (86, .bipush 8, 2), (88, .if_icmp .ge 18, 3), (91, .aload_n 0, 1), (92, .getfield 179, 3), (95, .iload_n 2, 1), (96, .iload_n 3, 1), (97, .iadd, 1), (98, .iconst 0, 1), (99, .iastore, 1), (100, .iinc 3 1, 3), (103, .goto (-18), 3), (106, .aload_n 0, 1), (107, .getfield 179, 3), (110, .iload_n 2, 1), (111, .iload_n 1, 1), (112, .iastore, 1), (113, .iload_n 1, 1), (114, .iconst 3, 1), (115, .if_icmp .eq 10, 3), (118, .aload_n 0, 1), (119, .iload_n 2, 1), (120, .iconst 1, 1), (121, .iadd, 1), (122, .invokevirtual 607, 3), (125, .iload_n 1, 1), (126, .iconst 1, 1), (127, .if_icmp .eq 8, 3), (130, .iload_n 1, 1), (131, .iconst 2, 1), (132, .if_icmp .ne 28, 3), (135, .aload_n 0, 1), (136, .getfield 270, 3), (139, .ifCond .ne 14, 3), (142, .aload_n 0, 1), (143, .aload_n 0, 1), (144, .ldc2_w 610, 3), (147, .invokevirtual 328, 3), (150, .invokevirtual 303, 3), (153, .aload_n 0, 1), (154, .iload_n 2, 1), (155, .iconst 3, 1), (156, .iadd, 1), (157, .invokevirtual 607, 3), (160, .aload_n 0, 1), (161, .getfield 179, 3), (164, .iload_n 2, 1), (165, .bipush 7, 2), (167, .iadd, 1), (168, .iconst 1, 1), (169, .iastore, 1), (170, .aload_n 0, 1), (171, .getfield 270, 3), (174, .ifCond .ne 34, 3), (177, .aload_n 0, 1), (178, .ldc2_w 612, 3), (181, .invokevirtual 328, 3), (184, .ifCond .eq 24, 3), (187, .aload_n 0, 1), (188, .invokevirtual 274, 3), (191, .aload_n 0, 1), (192, .getfield 179, 3), (195, .iload_n 2, 1), (196, .bipush 7, 2), (198, .iadd, 1), (199, .aload_n 0, 1), (200, .lconst 1, 1), (201, .ldc2_w 320, 3), (204, .invokevirtual 365, 3), (207, .iastore, 1), (208, .aload_n 0, 1), (209, .getfield 179, 3), (212, .iload_n 2, 1), (213, .iconst 5, 1), (214, .iadd, 1), (215, .aload_n 0, 1), (216, .getfield 307, 3), (219, .iastore, 1), (220, .aload_n 0, 1), (221, .getfield 270, 3), (224, .ifCond .ne 22, 3), (227, .aload_n 0, 1), (228, .ldc2_w 407, 3), (231, .invokevirtual 328, 3), (234, .ifCond .eq 12, 3), (237, .aload_n 0, 1), (238, .invokevirtual 274, 3), (241, .aload_n 0, 1), (242, .iconst 1, 1), (243, .invokevirtual 404, 3), (246, .aload_n 0, 1), (247, .getfield 179, 3), (250, .iload_n 2, 1), (251, .bipush 6, 2), (253, .iadd, 1), (254, .aload_n 0, 1), (255, .getfield 307, 3), (258, .iastore, 1), (259, .return_, 1)]
theorem dX12_readOrder : ∀ q ∈ tbX12_readOrder, decode prog_14_method_127_code q.1 = .ok q.2 := by decide +kernel
set_option maxRecDepth 20000 in
theorem cX12_readOrder (l : Launch) (w : WX) (hL : Lay w) (t : Nat) (ht : Wat w t 12 0) (M : Mem) : Ct l w yX12_readOrder prog_14_method_127_code 4 (Option.none : Option FieldType) 8 172 evU emU [.ref t] M (FX12_readOrder t M) := by
  refine ct_of (by decide) (Nat.le_of_ble_eq_true rfl) (fun x hl hx hb hz => ?_)
  subst hl
  have hd : ∀ i, DAt (xc x).code (tbX12_readOrder[i]?) := fun i => by rw [hb]; exact dat_of dX12_readOrder i
  show C x w (Qn x w evU emU) 4 0 [(0, .ref t)] [] M (FX12_readOrder t M)
  unfold FX12_readOrder
  refine r_iconst (pc' := 1) (v := (-1)) hx (hd 0) (by decide) rfl ?_
  refine r_istore_n (pc' := 2) (L' := [(1, .int (-1)), (0, .ref t)]) hx (hd 1) rfl (by decide) rfl rfl ?_
  refine r_iconst (pc' := 3) (v := 0) hx (hd 2) (by decide) rfl ?_
  refine r_istore_n (pc' := 4) (L' := [(2, .int 0), (1, .int (-1)), (0, .ref t)]) hx (hd 3) rfl (by decide) rfl rfl ?_
  refine r_sub [2, 1, 0] rfl ?_
  refine r_wl2 (fun v1 v2 => [(0, .ref t), (1, .int v1), (2, .int v2)]) (fun v1 v2 => []) (fun v1 v2 => M) (fun v1 v2 rec3 ih4 => ?_) fuel (-1) 0
  refine r_iload_n (pc' := 5) hx (hd 4) rfl 2 rfl rfl ?_
  refine r_iconst (pc' := 6) (v := 4) hx (hd 5) (by decide) rfl ?_
  refine r_icmp_ge (tgt := 34) (pc' := 9) hx (hd 6) (by decide) (fun _ => ?_) rfl (fun _ => ?_)
  · skip
    refine r_aload_n (pc' := 35) hx (hd 20) rfl 0 rfl rfl ?_
    refine r_iload_n (pc' := 36) hx (hd 21) rfl 1 rfl rfl ?_
    refine r_iconst (pc' := 37) (v := (-1)) hx (hd 22) (by decide) rfl ?_
    refine r_jn1 54 (fun v5 => [(0, .ref t), (1, .int v1)]) (fun v5 => [.int v5, .ref t]) (fun v5 => M) (fun v5 => ?_) (fun j6 hj7 => ?_)
    · skip
      refine r_callVU (pc' := 57) (As := [.int v5]) (rest := []) hx (hd 31) md_X12_must mi_X12_must ms_X12_must ml_12_303 (cX12_must (xl x) w hL t ht v5 M) ht rfl (by decide) ⟨Nat.le_of_ble_eq_true rfl, Nat.le_of_ble_eq_true rfl⟩ rfl rfl (Nat.le_of_ble_eq_true rfl) rfl (fun M8 => ?_)
      refine r_aload_n (pc' := 58) hx (hd 32) rfl 0 rfl rfl ?_
      refine r_get (pc' := 61) (v := .int (mI M8 t 19)) hx (hd 33) fl_12_270 ht rfl (by decide) rfl ?_
      refine r_if_eq (tgt := 65) (pc' := 64) hx (hd 34) (by decide) (fun _ => ?_) rfl (fun _ => ?_)
      · skip
        refine r_bipush (pc' := 67) (v := 8) hx (hd 36) (by decide) rfl ?_
        refine r_aload_n (pc' := 68) hx (hd 37) rfl 0 rfl rfl ?_
        refine r_get (pc' := 71) (v := .int (mI M8 t 21)) hx (hd 38) fl_12_401 ht rfl (by decide) rfl ?_
        refine r_imul (pc' := 72) hx (hd 39) rfl ?_
        refine r_nmI (fun v9 => ?_)
        refine r_istore_n (pc' := 73) (L' := [(2, .int v9), (0, .ref t), (1, .int v1)]) hx (hd 40) rfl (by decide) rfl rfl ?_
        refine r_aload_n (pc' := 74) hx (hd 41) rfl 1 rfl rfl ?_
        refine r_dup (pc' := 75) hx (hd 42) rfl rfl ?_
        refine r_get (pc' := 78) (v := .int (mI M8 t 21)) hx (hd 43) fl_12_401 ht rfl (by decide) rfl ?_
        refine r_iconst (pc' := 79) (v := 1) hx (hd 44) (by decide) rfl ?_
        refine r_iadd (pc' := 80) hx (hd 45) rfl ?_
        refine r_putI (pc' := 83) hx (hd 46) fp_12_401 ht rfl (by decide) rfl (fun M10 => ?_)
        refine r_iconst (pc' := 84) (v := 0) hx (hd 47) (by decide) rfl ?_
        refine r_istore_n (pc' := 85) (L' := [(3, .int 0), (2, .int v9), (0, .ref t), (1, .int v1)]) hx (hd 48) rfl (by decide) rfl rfl ?_
        refine r_sub [2, 3, 1, 0] rfl ?_
        refine r_wl2 (fun v11 M12 => [(0, .ref t), (1, .int v1), (2, .int v9), (3, .int v11)]) (fun v11 M12 => []) (fun v11 M12 => M12) (fun v11 M12 rec13 ih14 => ?_) fuel 0 M10
        refine r_iload_n (pc' := 86) hx (hd 49) rfl 3 rfl rfl ?_
        refine r_bipush (pc' := 88) (v := 8) hx (hd 50) (by decide) rfl ?_
        refine r_icmp_ge (tgt := 106) (pc' := 91) hx (hd 51) (by decide) (fun _ => ?_) rfl (fun _ => ?_)
        · skip
          refine r_aload_n (pc' := 107) hx (hd 61) rfl 0 rfl rfl ?_
          refine r_get (pc' := 110) (v := .ref (t + 40)) hx (hd 62) fl_12_179 ht rfl (by decide) rfl ?_
          have h15 := hL.1 _ _ _ ht 61 40 20 96 rfl
          refine r_iload_n (pc' := 111) hx (hd 63) rfl 2 rfl rfl ?_
          refine r_iload_n (pc' := 112) hx (hd 64) rfl 1 rfl rfl ?_
          refine r_gd (fun h17 => ?_)
          refine r_iast (pc' := 113) (k := ix v9) hx (hd 65) h15 h17 rfl rfl (fun M16 => ?_)
          refine r_iload_n (pc' := 114) hx (hd 66) rfl 1 rfl rfl ?_
          refine r_iconst (pc' := 115) (v := 3) hx (hd 67) (by decide) rfl ?_
          refine r_jn1 125 (fun M18 => [(0, .ref t), (1, .int v1), (2, .int v9)]) (fun M18 => []) (fun M18 => M18) (fun M18 => ?_) (fun j19 hj20 => ?_)
          · skip
            refine r_iload_n (pc' := 126) hx (hd 74) rfl 1 rfl rfl ?_
            refine r_iconst (pc' := 127) (v := 1) hx (hd 75) (by decide) rfl ?_
            refine r_jn1 160 (fun M21 => [(0, .ref t), (2, .int v9)]) (fun M21 => []) (fun M21 => M21) (fun M21 => ?_) (fun j22 hj23 => ?_)
            · skip
              refine r_aload_n (pc' := 161) hx (hd 93) rfl 0 rfl rfl ?_
              refine r_get (pc' := 164) (v := .ref (t + 40)) hx (hd 94) fl_12_179 ht rfl (by decide) rfl ?_
              have h24 := hL.1 _ _ _ ht 61 40 20 96 rfl
              refine r_iload_n (pc' := 165) hx (hd 95) rfl 1 rfl rfl ?_
              refine r_bipush (pc' := 167) (v := 7) hx (hd 96) (by decide) rfl ?_
              refine r_iadd (pc' := 168) hx (hd 97) rfl ?_
              refine r_iconst (pc' := 169) (v := 1) hx (hd 98) (by decide) rfl ?_
              refine r_gd (fun h26 => ?_)
              refine r_iast (pc' := 170) (k := ix (v9 + 7)) hx (hd 99) h24 h26 rfl rfl (fun M25 => ?_)
              refine r_aload_n (pc' := 171) hx (hd 100) rfl 0 rfl rfl ?_
              refine r_get (pc' := 174) (v := .int (mI M25 t 19)) hx (hd 101) fl_12_270 ht rfl (by decide) rfl ?_
              refine r_jn1 208 (fun M27 => [(0, .ref t), (2, .int v9)]) (fun M27 => []) (fun M27 => M27) (fun M27 => ?_) (fun j28 hj29 => ?_)
              · skip
                refine r_aload_n (pc' := 209) hx (hd 119) rfl 0 rfl rfl ?_
                refine r_get (pc' := 212) (v := .ref (t + 40)) hx (hd 120) fl_12_179 ht rfl (by decide) rfl ?_
                have h30 := hL.1 _ _ _ ht 61 40 20 96 rfl
                refine r_iload_n (pc' := 213) hx (hd 121) rfl 1 rfl rfl ?_
                refine r_iconst (pc' := 214) (v := 5) hx (hd 122) (by decide) rfl ?_
                refine r_iadd (pc' := 215) hx (hd 123) rfl ?_
                refine r_aload_n (pc' := 216) hx (hd 124) rfl 0 rfl rfl ?_
                refine r_get (pc' := 219) (v := .int (mI M27 t 23)) hx (hd 125) fl_12_307 ht rfl (by decide) rfl ?_
                refine r_gd (fun h32 => ?_)
                refine r_iast (pc' := 220) (k := ix (v9 + 5)) hx (hd 126) h30 h32 rfl rfl (fun M31 => ?_)
                refine r_aload_n (pc' := 221) hx (hd 127) rfl 0 rfl rfl ?_
                refine r_get (pc' := 224) (v := .int (mI M31 t 19)) hx (hd 128) fl_12_270 ht rfl (by decide) rfl ?_
                refine r_jn1 246 (fun M33 => [(0, .ref t), (2, .int v9)]) (fun M33 => []) (fun M33 => M33) (fun M33 => ?_) (fun j34 hj35 => ?_)
                · skip
                  refine r_aload_n (pc' := 247) hx (hd 139) rfl 0 rfl rfl ?_
                  refine r_get (pc' := 250) (v := .ref (t + 40)) hx (hd 140) fl_12_179 ht rfl (by decide) rfl ?_
                  have h36 := hL.1 _ _ _ ht 61 40 20 96 rfl
                  refine r_iload_n (pc' := 251) hx (hd 141) rfl 1 rfl rfl ?_
                  refine r_bipush (pc' := 253) (v := 6) hx (hd 142) (by decide) rfl ?_
                  refine r_iadd (pc' := 254) hx (hd 143) rfl ?_
                  refine r_aload_n (pc' := 255) hx (hd 144) rfl 0 rfl rfl ?_
                  refine r_get (pc' := 258) (v := .int (mI M33 t 23)) hx (hd 145) fl_12_307 ht rfl (by decide) rfl ?_
                  refine r_gd (fun h38 => ?_)
                  refine r_iast (pc' := 259) (k := ix (v9 + 6)) hx (hd 146) h36 h38 rfl rfl (fun M37 => ?_)
                  exact r_vret hx (hd 147) rfl rfl hz
                refine r_if_ne (tgt := 246) (pc' := 227) hx (hd 129) (by decide) (fun _ => ?_) rfl (fun _ => ?_)
                · skip
                  exact hj35 M31
                · skip
                  refine r_aload_n (pc' := 228) hx (hd 130) rfl 0 rfl rfl ?_
                  refine r_ldc2 (pc' := 231) hx (hd 131) kc_12_407 rfl ?_
                  refine r_callV (pc' := 234) (As := [.long 294]) (rest := []) hx (hd 132) md_X12_isWord mi_X12_isWord ms_X12_isWord ml_12_328 (cX12_isWord (xl x) w hL t ht 294 M31) ht rfl (by decide) ⟨Nat.le_of_ble_eq_true rfl, Nat.le_of_ble_eq_true rfl⟩ rfl rfl (Nat.le_of_ble_eq_true rfl) (fun r39 => .int r39 :: []) (fun _ => M31) (fun _ => ⟨rfl, rfl⟩) rfl (fun r39 _ => ?_)
                  refine r_if_eq (tgt := 246) (pc' := 237) hx (hd 133) (by decide) (fun _ => ?_) rfl (fun _ => ?_)
                  · skip
                    exact hj35 M31
                  · skip
                    refine r_aload_n (pc' := 238) hx (hd 134) rfl 0 rfl rfl ?_
                    refine r_callVU (pc' := 241) (As := []) (rest := []) hx (hd 135) md_X12_next mi_X12_next ms_X12_next ml_12_274 (cX12_next (xl x) w hL t ht M31) ht rfl (by decide) ⟨Nat.le_of_ble_eq_true rfl, Nat.le_of_ble_eq_true rfl⟩ rfl rfl (Nat.le_of_ble_eq_true rfl) rfl (fun M40 => ?_)
                    refine r_aload_n (pc' := 242) hx (hd 136) rfl 0 rfl rfl ?_
                    refine r_iconst (pc' := 243) (v := 1) hx (hd 137) (by decide) rfl ?_
                    refine r_callVU (pc' := 246) (As := [.int 1]) (rest := []) hx (hd 138) md_X12_readExpression mi_X12_readExpression ms_X12_readExpression ml_12_404 (cX12_readExpression (xl x) w hL t ht 1 M40) ht rfl (by decide) ⟨Nat.le_of_ble_eq_true rfl, Nat.le_of_ble_eq_true rfl⟩ rfl rfl (Nat.le_of_ble_eq_true rfl) rfl (fun M41 => ?_)
                    exact hj35 M41
              refine r_if_ne (tgt := 208) (pc' := 177) hx (hd 102) (by decide) (fun _ => ?_) rfl (fun _ => ?_)
              · skip
                exact hj29 M25
              · skip
                refine r_aload_n (pc' := 178) hx (hd 103) rfl 0 rfl rfl ?_
                refine r_ldc2 (pc' := 181) hx (hd 104) kc_12_612 rfl ?_
                refine r_callV (pc' := 184) (As := [.long 21279923]) (rest := []) hx (hd 105) md_X12_isWord mi_X12_isWord ms_X12_isWord ml_12_328 (cX12_isWord (xl x) w hL t ht 21279923 M25) ht rfl (by decide) ⟨Nat.le_of_ble_eq_true rfl, Nat.le_of_ble_eq_true rfl⟩ rfl rfl (Nat.le_of_ble_eq_true rfl) (fun r42 => .int r42 :: []) (fun _ => M25) (fun _ => ⟨rfl, rfl⟩) rfl (fun r42 _ => ?_)
                refine r_if_eq (tgt := 208) (pc' := 187) hx (hd 106) (by decide) (fun _ => ?_) rfl (fun _ => ?_)
                · skip
                  exact hj29 M25
                · skip
                  refine r_aload_n (pc' := 188) hx (hd 107) rfl 0 rfl rfl ?_
                  refine r_callVU (pc' := 191) (As := []) (rest := []) hx (hd 108) md_X12_next mi_X12_next ms_X12_next ml_12_274 (cX12_next (xl x) w hL t ht M25) ht rfl (by decide) ⟨Nat.le_of_ble_eq_true rfl, Nat.le_of_ble_eq_true rfl⟩ rfl rfl (Nat.le_of_ble_eq_true rfl) rfl (fun M43 => ?_)
                  refine r_aload_n (pc' := 192) hx (hd 109) rfl 0 rfl rfl ?_
                  refine r_get (pc' := 195) (v := .ref (t + 40)) hx (hd 110) fl_12_179 ht rfl (by decide) rfl ?_
                  have h44 := hL.1 _ _ _ ht 61 40 20 96 rfl
                  refine r_iload_n (pc' := 196) hx (hd 111) rfl 1 rfl rfl ?_
                  refine r_bipush (pc' := 198) (v := 7) hx (hd 112) (by decide) rfl ?_
                  refine r_iadd (pc' := 199) hx (hd 113) rfl ?_
                  refine r_aload_n (pc' := 200) hx (hd 114) rfl 0 rfl rfl ?_
                  refine r_lconst (pc' := 201) (v := 1) hx (hd 115) (by decide) rfl ?_
                  refine r_ldc2 (pc' := 204) hx (hd 116) kc_12_320 rfl ?_
                  refine r_callVI (pc' := 207) (As := [.long 1, .long 20]) (rest := [.int (v9 + 7), .ref (t + 40)]) hx (hd 117) md_X12_number mi_X12_number ms_X12_number ml_12_365 (cX12_number (xl x) w hL t ht 1 20 M43) ht rfl (by decide) ⟨Nat.le_of_ble_eq_true rfl, Nat.le_of_ble_eq_true rfl⟩ rfl rfl (Nat.le_of_ble_eq_true rfl) (fun r46 => .int r46 :: [.int (v9 + 7), .ref (t + 40)]) (fun _ => rfl) rfl (fun r46 M45 => ?_)
                  refine r_gd (fun h48 => ?_)
                  refine r_iast (pc' := 208) (k := ix (v9 + 7)) hx (hd 118) h44 h48 rfl rfl (fun M47 => ?_)
                  exact hj29 M47
            refine r_jn0 135 ([(0, .ref t), (2, .int v9)]) ([]) (M18) (?_) (fun j49 hj50 => ?_)
            · skip
              refine r_aload_n (pc' := 136) hx (hd 80) rfl 0 rfl rfl ?_
              refine r_get (pc' := 139) (v := .int (mI M18 t 19)) hx (hd 81) fl_12_270 ht rfl (by decide) rfl ?_
              refine r_jn1 153 (fun M51 => [(0, .ref t), (2, .int v9)]) (fun M51 => []) (fun M51 => M51) (fun M51 => ?_) (fun j52 hj53 => ?_)
              · skip
                refine r_aload_n (pc' := 154) hx (hd 88) rfl 0 rfl rfl ?_
                refine r_iload_n (pc' := 155) hx (hd 89) rfl 1 rfl rfl ?_
                refine r_iconst (pc' := 156) (v := 3) hx (hd 90) (by decide) rfl ?_
                refine r_iadd (pc' := 157) hx (hd 91) rfl ?_
                refine r_callVU (pc' := 160) (As := [.int (v9 + 3)]) (rest := []) hx (hd 92) md_X12_readSum mi_X12_readSum ms_X12_readSum ml_12_607 (cX12_readSum (xl x) w hL t ht (v9 + 3) M51) ht rfl (by decide) ⟨Nat.le_of_ble_eq_true rfl, Nat.le_of_ble_eq_true rfl⟩ rfl rfl (Nat.le_of_ble_eq_true rfl) rfl (fun M54 => ?_)
                exact hj23 M54
              refine r_if_ne (tgt := 153) (pc' := 142) hx (hd 82) (by decide) (fun _ => ?_) rfl (fun _ => ?_)
              · skip
                exact hj53 M18
              · skip
                refine r_aload_n (pc' := 143) hx (hd 83) rfl 0 rfl rfl ?_
                refine r_aload_n (pc' := 144) hx (hd 84) rfl 0 rfl rfl ?_
                refine r_ldc2 (pc' := 147) hx (hd 85) kc_12_610 rfl ?_
                refine r_callV (pc' := 150) (As := [.long 89]) (rest := [.ref t]) hx (hd 86) md_X12_isWord mi_X12_isWord ms_X12_isWord ml_12_328 (cX12_isWord (xl x) w hL t ht 89 M18) ht rfl (by decide) ⟨Nat.le_of_ble_eq_true rfl, Nat.le_of_ble_eq_true rfl⟩ rfl rfl (Nat.le_of_ble_eq_true rfl) (fun r55 => .int r55 :: [.ref t]) (fun _ => M18) (fun _ => ⟨rfl, rfl⟩) rfl (fun r55 _ => ?_)
                refine r_callVU (pc' := 153) (As := [.int r55]) (rest := []) hx (hd 87) md_X12_must mi_X12_must ms_X12_must ml_12_303 (cX12_must (xl x) w hL t ht r55 M18) ht rfl (by decide) ⟨Nat.le_of_ble_eq_true rfl, Nat.le_of_ble_eq_true rfl⟩ rfl rfl (Nat.le_of_ble_eq_true rfl) rfl (fun M56 => ?_)
                exact hj53 M56
            refine r_icmp_eq (tgt := 135) (pc' := 130) hx (hd 76) (by decide) (fun _ => ?_) rfl (fun _ => ?_)
            · skip
              refine r_sub [0, 2] rfl ?_
              exact hj50
            · skip
              refine r_iload_n (pc' := 131) hx (hd 77) rfl 1 rfl rfl ?_
              refine r_iconst (pc' := 132) (v := 2) hx (hd 78) (by decide) rfl ?_
              refine r_icmp_ne (tgt := 160) (pc' := 135) hx (hd 79) (by decide) (fun _ => ?_) rfl (fun _ => ?_)
              · skip
                refine r_sub [0, 2] rfl ?_
                exact hj23 M18
              · skip
                refine r_sub [0, 2] rfl ?_
                exact hj50
          refine r_icmp_eq (tgt := 125) (pc' := 118) hx (hd 68) (by decide) (fun _ => ?_) rfl (fun _ => ?_)
          · skip
            refine r_sub [0, 1, 2] rfl ?_
            exact hj20 M16
          · skip
            refine r_aload_n (pc' := 119) hx (hd 69) rfl 0 rfl rfl ?_
            refine r_iload_n (pc' := 120) hx (hd 70) rfl 2 rfl rfl ?_
            refine r_iconst (pc' := 121) (v := 1) hx (hd 71) (by decide) rfl ?_
            refine r_iadd (pc' := 122) hx (hd 72) rfl ?_
            refine r_callVU (pc' := 125) (As := [.int (v9 + 1)]) (rest := []) hx (hd 73) md_X12_readSum mi_X12_readSum ms_X12_readSum ml_12_607 (cX12_readSum (xl x) w hL t ht (v9 + 1) M16) ht rfl (by decide) ⟨Nat.le_of_ble_eq_true rfl, Nat.le_of_ble_eq_true rfl⟩ rfl rfl (Nat.le_of_ble_eq_true rfl) rfl (fun M57 => ?_)
            refine r_sub [0, 1, 2] rfl ?_
            exact hj20 M57
        · skip
          refine r_aload_n (pc' := 92) hx (hd 52) rfl 0 rfl rfl ?_
          refine r_get (pc' := 95) (v := .ref (t + 40)) hx (hd 53) fl_12_179 ht rfl (by decide) rfl ?_
          have h58 := hL.1 _ _ _ ht 61 40 20 96 rfl
          refine r_iload_n (pc' := 96) hx (hd 54) rfl 2 rfl rfl ?_
          refine r_iload_n (pc' := 97) hx (hd 55) rfl 3 rfl rfl ?_
          refine r_iadd (pc' := 98) hx (hd 56) rfl ?_
          refine r_iconst (pc' := 99) (v := 0) hx (hd 57) (by decide) rfl ?_
          refine r_gd (fun h60 => ?_)
          refine r_iast (pc' := 100) (k := ix (v9 + v11)) hx (hd 58) h58 h60 rfl rfl (fun M59 => ?_)
          refine r_iinc (pc' := 103) (v := 1) hx (hd 59) 3 rfl (by decide) (by decide) (fun v61 => [(3, .int v61), (0, .ref t), (1, .int v1), (2, .int v9)]) (fun _ => rfl) rfl (fun v61 => ?_)
          refine r_goto (tgt := 85) hx (hd 60) (by decide) ?_
          refine r_sub [1, 2, 3, 0] rfl ?_
          exact ih14 v61 M59
      · skip
        exact r_vret hx (hd 35) rfl rfl hz
    refine r_jn0 53 ([(0, .ref t), (1, .int v1)]) ([.ref t]) (M) (?_) (fun j62 hj63 => ?_)
    · skip
      refine r_iconst (pc' := 54) (v := 0) hx (hd 30) (by decide) rfl ?_
      exact hj7 0
    refine r_icmp_eq (tgt := 53) (pc' := 40) hx (hd 23) (by decide) (fun _ => ?_) rfl (fun _ => ?_)
    · skip
      refine r_sub [0, 1] rfl ?_
      exact hj63
    · skip
      refine r_aload_n (pc' := 41) hx (hd 24) rfl 0 rfl rfl ?_
      refine r_get (pc' := 44) (v := .int (mI M t 21)) hx (hd 25) fl_12_401 ht rfl (by decide) rfl ?_
      refine r_bipush (pc' := 46) (v := 12) hx (hd 26) (by decide) rfl ?_
      refine r_icmp_ge (tgt := 53) (pc' := 49) hx (hd 27) (by decide) (fun _ => ?_) rfl (fun _ => ?_)
      · skip
        refine r_sub [0, 1] rfl ?_
        exact hj63
      · skip
        refine r_iconst (pc' := 50) (v := 1) hx (hd 28) (by decide) rfl ?_
        refine r_goto (tgt := 54) hx (hd 29) (by decide) ?_
        refine r_sub [0, 1] rfl ?_
        exact hj7 1
  · skip
    refine r_aload_n (pc' := 10) hx (hd 7) rfl 0 rfl rfl ?_
    refine r_aload_n (pc' := 11) hx (hd 8) rfl 0 rfl rfl ?_
    refine r_get (pc' := 14) (v := .ref (t + 39)) hx (hd 9) fl_12_176 ht rfl (by decide) rfl ?_
    have h64 := hL.1 _ _ _ ht 60 39 21 4 rfl
    refine r_iload_n (pc' := 15) hx (hd 10) rfl 2 rfl rfl ?_
    refine r_gd (fun h65 => ?_)
    refine r_lald (pc' := 16) (k := ix v2) hx (hd 11) h64 h65 rfl rfl ?_
    refine r_callV (pc' := 19) (As := [.long (mJ M (t + 39) (ix v2))]) (rest := []) hx (hd 12) md_X12_isWord mi_X12_isWord ms_X12_isWord ml_12_328 (cX12_isWord (xl x) w hL t ht (mJ M (t + 39) (ix v2)) M) ht rfl (by decide) ⟨Nat.le_of_ble_eq_true rfl, Nat.le_of_ble_eq_true rfl⟩ rfl rfl (Nat.le_of_ble_eq_true rfl) (fun r66 => .int r66 :: []) (fun _ => M) (fun _ => ⟨rfl, rfl⟩) rfl (fun r66 _ => ?_)
    refine r_jn1 27 (fun v67 => [(0, .ref t), (2, .int v2)]) (fun v67 => [.int v67]) (fun v67 => M) (fun v67 => ?_) (fun j68 hj69 => ?_)
    · skip
      refine r_istore_n (pc' := 28) (L' := [(1, .int v67), (0, .ref t), (2, .int v2)]) hx (hd 17) rfl (by decide) rfl rfl ?_
      refine r_iinc (pc' := 31) (v := 1) hx (hd 18) 2 rfl (by decide) (by decide) (fun v70 => [(2, .int v70), (1, .int v67), (0, .ref t)]) (fun _ => rfl) rfl (fun v70 => ?_)
      refine r_goto (tgt := 4) hx (hd 19) (by decide) ?_
      refine r_sub [2, 1, 0] rfl ?_
      exact ih4 v67 v70
    refine r_if_eq (tgt := 26) (pc' := 22) hx (hd 13) (by decide) (fun _ => ?_) rfl (fun _ => ?_)
    · skip
      refine r_iload_n (pc' := 27) hx (hd 16) rfl 1 rfl rfl ?_
      refine r_sub [0, 2] rfl ?_
      exact hj69 v1
    · skip
      refine r_iload_n (pc' := 23) hx (hd 14) rfl 2 rfl rfl ?_
      refine r_goto (tgt := 27) hx (hd 15) (by decide) ?_
      refine r_sub [0, 2] rfl ?_
      exact hj69 v2
abbrev yX12_sumOf : MethodName := ({ cls := "CribbageRoomModel", name := "sumOf", desc := "(I)I" } : Jvm.MethodName)
def tbX12_sumOf : List (Nat × Instr × Nat) := [(0, .aload_n 0, 1), (1, .getfield 614, 3), (4, .ifCond .ne 20, 3), (7, .aload_n 0, 1), (8, .getfield 179, 3), (11, .iload_n 1, 1), (12, .iaload, 1), (13, .aload_n 0, 1), (14, .getfield 179, 3), (17, .iload_n 1, 1), (18, .iconst 1, 1), (19, .iadd, 1), (20, .iaload, 1), (21, .if_icmp .ne 5, 3), (24, .iconst (-1), 1), (25, .ireturn, 1), (26, .aload_n 0, 1), (27, .iconst 1, 1), (28, .putfield 347, 3), (31, .aload_n 0, 1), (32, .aload_n 0, 1), (33, .getfield 179, 3), (36, .iload_n 1, 1), (37, .iaload, 1), (38, .aload_n 0, 1), (39, .getfield 179, 3), (42, .iload_n 1, 1), (43, .iconst 1, 1), (44, .iadd, 1), (45, .iaload, 1), (46, .invokevirtual 438, 3), (49, .aload_n 0, 1), (50, .iconst 0, 1), (51, .putfield 347, 3), (54, .aload_n 0, 1), (55, .aload_n 0, 1), (56, .getfield 421, 3), (59, .putfield 614, 3), (62, .aload_n 0, 1), (63, .getfield 435, 3), (66, .l2i, 1), (67, .ireturn, 1)]
theorem dX12_sumOf : ∀ q ∈ tbX12_sumOf, decode prog_14_method_128_code q.1 = .ok q.2 := by decide +kernel
set_option maxRecDepth 20000 in
theorem cX12_sumOf (l : Launch) (w : WX) (hL : Lay w) (t : Nat) (ht : Wat w t 12 0) (p1 : Int32) (M : Mem) : Ct l w yX12_sumOf prog_14_method_128_code 2 (Option.some FieldType.int) 2 51 evIM emM [.ref t, .int p1] M (FX12_sumOf t p1 M) := by
  refine ct_of (by decide) (Nat.le_of_ble_eq_true rfl) (fun x hl hx hb hz => ?_)
  subst hl
  have hd : ∀ i, DAt (xc x).code (tbX12_sumOf[i]?) := fun i => by rw [hb]; exact dat_of dX12_sumOf i
  show C x w (Qn x w evIM emM) 2 0 [(0, .ref t), (1, .int p1)] [] M (FX12_sumOf t p1 M)
  unfold FX12_sumOf
  refine r_aload_n (pc' := 1) hx (hd 0) rfl 0 rfl rfl ?_
  refine r_get (pc' := 4) (v := .int (mI M t 65)) hx (hd 1) fl_12_614 ht rfl (by decide) rfl ?_
  refine r_jn0 24 ([]) ([]) (M) (?_) (fun j1 hj2 => ?_)
  · skip
    refine r_iconst (pc' := 25) (v := (-1)) hx (hd 14) (by decide) rfl ?_
    exact r_iret hx (hd 15) rfl rfl hz
  refine r_if_ne (tgt := 24) (pc' := 7) hx (hd 2) (by decide) (fun _ => ?_) rfl (fun _ => ?_)
  · skip
    refine r_sub [] rfl ?_
    exact hj2
  · skip
    refine r_aload_n (pc' := 8) hx (hd 3) rfl 0 rfl rfl ?_
    refine r_get (pc' := 11) (v := .ref (t + 40)) hx (hd 4) fl_12_179 ht rfl (by decide) rfl ?_
    have h3 := hL.1 _ _ _ ht 61 40 20 96 rfl
    refine r_iload_n (pc' := 12) hx (hd 5) rfl 1 rfl rfl ?_
    refine r_gd (fun h4 => ?_)
    refine r_iald (pc' := 13) (k := ix p1) hx (hd 6) h3 h4 rfl rfl ?_
    refine r_aload_n (pc' := 14) hx (hd 7) rfl 0 rfl rfl ?_
    refine r_get (pc' := 17) (v := .ref (t + 40)) hx (hd 8) fl_12_179 ht rfl (by decide) rfl ?_
    have h5 := hL.1 _ _ _ ht 61 40 20 96 rfl
    refine r_iload_n (pc' := 18) hx (hd 9) rfl 1 rfl rfl ?_
    refine r_iconst (pc' := 19) (v := 1) hx (hd 10) (by decide) rfl ?_
    refine r_iadd (pc' := 20) hx (hd 11) rfl ?_
    refine r_gd (fun h6 => ?_)
    refine r_iald (pc' := 21) (k := ix (p1 + 1)) hx (hd 12) h5 h6 rfl rfl ?_
    refine r_icmp_ne (tgt := 26) (pc' := 24) hx (hd 13) (by decide) (fun _ => ?_) rfl (fun _ => ?_)
    · skip
      refine r_aload_n (pc' := 27) hx (hd 16) rfl 0 rfl rfl ?_
      refine r_iconst (pc' := 28) (v := 1) hx (hd 17) (by decide) rfl ?_
      refine r_putZ (pc' := 31) hx (hd 18) fp_12_347 ht rfl (by decide) rfl rfl (fun M7 => ?_)
      refine r_aload_n (pc' := 32) hx (hd 19) rfl 0 rfl rfl ?_
      refine r_aload_n (pc' := 33) hx (hd 20) rfl 0 rfl rfl ?_
      refine r_get (pc' := 36) (v := .ref (t + 40)) hx (hd 21) fl_12_179 ht rfl (by decide) rfl ?_
      have h8 := hL.1 _ _ _ ht 61 40 20 96 rfl
      refine r_iload_n (pc' := 37) hx (hd 22) rfl 1 rfl rfl ?_
      refine r_gd (fun h9 => ?_)
      refine r_iald (pc' := 38) (k := ix p1) hx (hd 23) h8 h9 rfl rfl ?_
      refine r_aload_n (pc' := 39) hx (hd 24) rfl 0 rfl rfl ?_
      refine r_get (pc' := 42) (v := .ref (t + 40)) hx (hd 25) fl_12_179 ht rfl (by decide) rfl ?_
      have h10 := hL.1 _ _ _ ht 61 40 20 96 rfl
      refine r_iload_n (pc' := 43) hx (hd 26) rfl 1 rfl rfl ?_
      refine r_iconst (pc' := 44) (v := 1) hx (hd 27) (by decide) rfl ?_
      refine r_iadd (pc' := 45) hx (hd 28) rfl ?_
      refine r_gd (fun h11 => ?_)
      refine r_iald (pc' := 46) (k := ix (p1 + 1)) hx (hd 29) h10 h11 rfl rfl ?_
      refine r_callVU (pc' := 49) (As := [.int (mI M7 (t + 40) (ix p1)), .int (mI M7 (t + 40) (ix (p1 + 1)))]) (rest := []) hx (hd 30) md_X12_reckonAll mi_X12_reckonAll ms_X12_reckonAll ml_12_438 (cX12_reckonAll (xl x) w hL t ht (mI M7 (t + 40) (ix p1)) (mI M7 (t + 40) (ix (p1 + 1))) M7) ht rfl (by decide) ⟨Nat.le_of_ble_eq_true rfl, Nat.le_of_ble_eq_true rfl⟩ rfl rfl (Nat.le_of_ble_eq_true rfl) rfl (fun M12 => ?_)
      refine r_aload_n (pc' := 50) hx (hd 31) rfl 0 rfl rfl ?_
      refine r_iconst (pc' := 51) (v := 0) hx (hd 32) (by decide) rfl ?_
      refine r_putZ (pc' := 54) hx (hd 33) fp_12_347 ht rfl (by decide) rfl rfl (fun M13 => ?_)
      refine r_aload_n (pc' := 55) hx (hd 34) rfl 0 rfl rfl ?_
      refine r_aload_n (pc' := 56) hx (hd 35) rfl 0 rfl rfl ?_
      refine r_get (pc' := 59) (v := .int (mI M13 t 38)) hx (hd 36) fl_12_421 ht rfl (by decide) rfl ?_
      refine r_gd (fun h15 => ?_)
      refine r_putZ (pc' := 62) hx (hd 37) fp_12_614 ht rfl (by decide) h15 rfl (fun M14 => ?_)
      refine r_aload_n (pc' := 63) hx (hd 38) rfl 0 rfl rfl ?_
      refine r_get (pc' := 66) (v := .long (mJ M14 t 39)) hx (hd 39) fl_12_435 ht rfl (by decide) rfl ?_
      refine r_l2i (pc' := 67) hx (hd 40) rfl ?_
      exact r_iret hx (hd 41) rfl rfl hz
    · skip
      refine r_sub [] rfl ?_
      exact hj2
abbrev yX12_act : MethodName := ({ cls := "CribbageRoomModel", name := "act", desc := "(III)I" } : Jvm.MethodName)
def tbX12_act : List (Nat × Instr × Nat) := [(0, .iload_n 1, 1), (1, .tableswitch 47 0 2 #[27, 33, 40], 27), (28, .aload_n 0, 1), (29, .iload_n 2, 1), (30, .invokevirtual 506, 3), (33, .ireturn, 1), (34, .aload_n 0, 1), (35, .iload_n 2, 1), (36, .iload_n 3, 1), (37, .invokevirtual 524, 3), (40, .ireturn, 1), (41, .aload_n 0, 1), (42, .iload_n 2, 1), (43, .iload_n 3, 1), (44, .invokevirtual 542, 3), (47, .ireturn, 1), (48, .aload_n 0, 1), (49, .invokevirtual 551, 3), (52, .ireturn, 1)]
theorem dX12_act : ∀ q ∈ tbX12_act, decode prog_14_method_129_code q.1 = .ok q.2 := by decide +kernel
set_option maxRecDepth 20000 in
theorem cX12_act (l : Launch) (w : WX) (hL : Lay w) (t : Nat) (ht : Wat w t 12 0) (p1 : Int32) (p2 : Int32) (p3 : Int32) (M : Mem) : Ct l w yX12_act prog_14_method_129_code 4 (Option.some FieldType.int) 10 237 evIM emM [.ref t, .int p1, .int p2, .int p3] M (FX12_act t p1 p2 p3 M) := by
  refine ct_of (by decide) (Nat.le_of_ble_eq_true rfl) (fun x hl hx hb hz => ?_)
  subst hl
  have hd : ∀ i, DAt (xc x).code (tbX12_act[i]?) := fun i => by rw [hb]; exact dat_of dX12_act i
  show C x w (Qn x w evIM emM) 4 0 [(0, .ref t), (1, .int p1), (2, .int p2), (3, .int p3)] [] M (FX12_act t p1 p2 p3 M)
  unfold FX12_act
  refine r_iload_n (pc' := 1) hx (hd 0) rfl 1 rfl rfl ?_
  refine r_table (td := 48) [28, 34, 41] hx (hd 1) rfl rfl rfl (by decide) ?_ ?_
  · skip
    refine r_aload_n (pc' := 49) hx (hd 16) rfl 0 rfl rfl ?_
    refine r_callVI (pc' := 52) (As := []) (rest := []) hx (hd 17) md_X12_showNow mi_X12_showNow ms_X12_showNow ml_12_551 (cX12_showNow (xl x) w hL t ht M) ht rfl (by decide) ⟨Nat.le_of_ble_eq_true rfl, Nat.le_of_ble_eq_true rfl⟩ rfl rfl (Nat.le_of_ble_eq_true rfl) (fun r2 => .int r2 :: []) (fun _ => rfl) rfl (fun r2 M1 => ?_)
    exact r_iret hx (hd 18) rfl rfl hz
  refine ⟨?_, ?_, ?_,  trivial⟩
  · skip
    refine r_aload_n (pc' := 29) hx (hd 2) rfl 0 rfl rfl ?_
    refine r_iload_n (pc' := 30) hx (hd 3) rfl 2 rfl rfl ?_
    refine r_callVI (pc' := 33) (As := [.int p2]) (rest := []) hx (hd 4) md_X12_dealNow mi_X12_dealNow ms_X12_dealNow ml_12_506 (cX12_dealNow (xl x) w hL t ht p2 M) ht rfl (by decide) ⟨Nat.le_of_ble_eq_true rfl, Nat.le_of_ble_eq_true rfl⟩ rfl rfl (Nat.le_of_ble_eq_true rfl) (fun r4 => .int r4 :: []) (fun _ => rfl) rfl (fun r4 M3 => ?_)
    exact r_iret hx (hd 5) rfl rfl hz
  · skip
    refine r_aload_n (pc' := 35) hx (hd 6) rfl 0 rfl rfl ?_
    refine r_iload_n (pc' := 36) hx (hd 7) rfl 2 rfl rfl ?_
    refine r_iload_n (pc' := 37) hx (hd 8) rfl 3 rfl rfl ?_
    refine r_callVI (pc' := 40) (As := [.int p2, .int p3]) (rest := []) hx (hd 9) md_X12_layNow mi_X12_layNow ms_X12_layNow ml_12_524 (cX12_layNow (xl x) w hL t ht p2 p3 M) ht rfl (by decide) ⟨Nat.le_of_ble_eq_true rfl, Nat.le_of_ble_eq_true rfl⟩ rfl rfl (Nat.le_of_ble_eq_true rfl) (fun r6 => .int r6 :: []) (fun _ => rfl) rfl (fun r6 M5 => ?_)
    exact r_iret hx (hd 10) rfl rfl hz
  · skip
    refine r_aload_n (pc' := 42) hx (hd 11) rfl 0 rfl rfl ?_
    refine r_iload_n (pc' := 43) hx (hd 12) rfl 2 rfl rfl ?_
    refine r_iload_n (pc' := 44) hx (hd 13) rfl 3 rfl rfl ?_
    refine r_callVI (pc' := 47) (As := [.int p2, .int p3]) (rest := []) hx (hd 14) md_X12_playNow mi_X12_playNow ms_X12_playNow ml_12_542 (cX12_playNow (xl x) w hL t ht p2 p3 M) ht rfl (by decide) ⟨Nat.le_of_ble_eq_true rfl, Nat.le_of_ble_eq_true rfl⟩ rfl rfl (Nat.le_of_ble_eq_true rfl) (fun r8 => .int r8 :: []) (fun _ => rfl) rfl (fun r8 M7 => ?_)
    exact r_iret hx (hd 15) rfl rfl hz
abbrev yX12_runOnce : MethodName := ({ cls := "CribbageRoomModel", name := "runOnce", desc := "(I)I" } : Jvm.MethodName)
def tbX12_runOnce : List (Nat × Instr × Nat) := [(0, .aload_n 0, 1), (1, .getfield 110, 3), (4, .iconst 1, 1), (5, .aload_n 0, 1), (6, .getfield 13, 3), (9, .bipush 9, 2), (11, .iaload, 1), (12, .i2l, 1), (13, .lastore, 1), (14, .aload_n 0, 1), (15, .getfield 110, 3), (18, .iconst 2, 1), (19, .aload_n 0, 1), (20, .getfield 617, 3), (23, .i2l, 1), (24, .lastore, 1), (25, .aload_n 0, 1), (26, .getfield 110, 3), (29, .iconst 3, 1), (30, .aload_n 0, 1), (31, .getfield 620, 3), (34, .i2l, 1), (35, .lastore, 1), (36, .aload_n 0, 1), (37, .getfield 110, 3), (40, .iconst 4, 1), (41, .aload_n 0, 1), (42, .getfield 13, 3), (45, .bipush 12, 2), (47, .iaload, 1), (48, .i2l, 1), (49, .lastore, 1), (50, .aload_n 0, 1), (51, .getfield 110, 3), (54, .iconst 5, 1), (55, .aload_n 0, 1), (56, .getfield 13, 3), (59, .bipush 14, 2), (61, .iaload, 1), (62, .i2l, 1), (63, .lastore, 1), (64, .aload_n 0, 1), (65, .iconst 0, 1), (66, .putfield 614, 3), (69, .aload_n 0, 1), (70, .getfield 179, 3), (73, .iload_n 1, 1), (74, .iconst 5, 1), (75, .iadd, 1), (76, .iaload, 1), (77, .aload_n 0, 1), (78, .getfield 179, 3), (81, .iload_n 1, 1), (82, .bipush 6, 2), (84, .iadd, 1), (85, .iaload, 1), (86, .if_icmp .ge 24, 3), (89, .aload_n 0, 1), (90, .iload_n 1, 1), (91, .iconst 5, 1), (92, .iadd, 1), (93, .invokevirtual 623, 3), (96, .istore_n 2, 1), (97, .aload_n 0, 1), (98, .getfield 614, 3), (101, .ifCond .ne 7, 3), (104, .iload_n 2, 1), (105, .ifCond .ne 5, 3), (108, .iconst 0, 1), (109, .ireturn, 1), (110, .aload_n 0, 1), (111, .iload_n 1, 1), (112, .iconst 1, 1), (113, .iadd, 1), (114, .invokevirtual 623, 3), (117, .istore_n 2, 1), (118, .aload_n 0, 1), (119, .iload_n 1, 1), (120, .iconst 3, 1), (121, .iadd, 1), (122, .invokevirtual 623, 3), (125, .istore_n 3, 1), (126, .aload_n 0, 1), (127, .getfield 614, 3), (130, .ifCond .eq 6, 3), (133, .bipush (-3), 2), (135, .ireturn, 1), (136, .aload_n 0, 1), (137, .aload_n 0, 1), (138, .getfield 179, 3), (141, .iload_n 1, 1), (142, .iaload, 1), (143, .iload_n 2, 1), (144, .iload_n 3, 1), (145, .invokevirtual 626, 3), (148, .istore 4, 2), (150, .iload 4, 2), (152, .ifCond .ge 6, 3), (155, .bipush (-3), 2), (157, .ireturn, 1), (158, .aload_n 0, 1), (159, .aload_n 0, 1), (160, .getfield 179, 3), (163, .iload_n 1, 1), (164, .iaload, 1), (165, .iconst 2, 1), (166, .if_icmp .ne 8, 3), (169, .iload 4, 2), (171, .goto 7, 3), (174, .aload_n 0, 1), (175, .getfield 620, 3), (178, .putfield 620, 3), (181, .aload_n 0, 1), (182, .dup, 1), (183, .getfield 617, 3), (186, .iconst 1, 1), (187, .iadd, 1), (188, .putfield 617, 3), (191, .iconst 0, 1), (192, .ireturn, 1)]
theorem dX12_runOnce : ∀ q ∈ tbX12_runOnce, decode prog_14_method_130_code q.1 = .ok q.2 := by decide +kernel
set_option maxRecDepth 20000 in
theorem cX12_runOnce (l : Launch) (w : WX) (hL : Lay w) (t : Nat) (ht : Wat w t 12 0) (p1 : Int32) (M : Mem) : Ct l w yX12_runOnce prog_14_method_130_code 5 (Option.some FieldType.int) 11 260 evIM emM [.ref t, .int p1] M (FX12_runOnce t p1 M) := by
  refine ct_of (by decide) (Nat.le_of_ble_eq_true rfl) (fun x hl hx hb hz => ?_)
  subst hl
  have hd : ∀ i, DAt (xc x).code (tbX12_runOnce[i]?) := fun i => by rw [hb]; exact dat_of dX12_runOnce i
  show C x w (Qn x w evIM emM) 5 0 [(0, .ref t), (1, .int p1)] [] M (FX12_runOnce t p1 M)
  unfold FX12_runOnce
  refine r_aload_n (pc' := 1) hx (hd 0) rfl 0 rfl rfl ?_
  refine r_get (pc' := 4) (v := .ref (t + 19)) hx (hd 1) fl_12_110 ht rfl (by decide) rfl ?_
  have h1 := hL.1 _ _ _ ht 36 19 21 13 rfl
  refine r_iconst (pc' := 5) (v := 1) hx (hd 2) (by decide) rfl ?_
  refine r_aload_n (pc' := 6) hx (hd 3) rfl 0 rfl rfl ?_
  refine r_get (pc' := 9) (v := .ref (t + 2)) hx (hd 4) fl_12_13 ht rfl (by decide) rfl ?_
  have h2 := hL.1 _ _ _ ht 3 2 20 5594 rfl
  refine r_bipush (pc' := 11) (v := 9) hx (hd 5) (by decide) rfl ?_
  refine r_iald (pc' := 12) (k := 9) hx (hd 6) h2 (by decide) (by decide) rfl ?_
  refine r_i2l (pc' := 13) hx (hd 7) rfl ?_
  refine r_last (pc' := 14) (k := 1) hx (hd 8) h1 (by decide) (by decide) rfl (fun M3 => ?_)
  refine r_aload_n (pc' := 15) hx (hd 9) rfl 0 rfl rfl ?_
  refine r_get (pc' := 18) (v := .ref (t + 19)) hx (hd 10) fl_12_110 ht rfl (by decide) rfl ?_
  have h4 := hL.1 _ _ _ ht 36 19 21 13 rfl
  refine r_iconst (pc' := 19) (v := 2) hx (hd 11) (by decide) rfl ?_
  refine r_aload_n (pc' := 20) hx (hd 12) rfl 0 rfl rfl ?_
  refine r_get (pc' := 23) (v := .int (mI M3 t 62)) hx (hd 13) fl_12_617 ht rfl (by decide) rfl ?_
  refine r_i2l (pc' := 24) hx (hd 14) rfl ?_
  refine r_last (pc' := 25) (k := 2) hx (hd 15) h4 (by decide) (by decide) rfl (fun M5 => ?_)
  refine r_aload_n (pc' := 26) hx (hd 16) rfl 0 rfl rfl ?_
  refine r_get (pc' := 29) (v := .ref (t + 19)) hx (hd 17) fl_12_110 ht rfl (by decide) rfl ?_
  have h6 := hL.1 _ _ _ ht 36 19 21 13 rfl
  refine r_iconst (pc' := 30) (v := 3) hx (hd 18) (by decide) rfl ?_
  refine r_aload_n (pc' := 31) hx (hd 19) rfl 0 rfl rfl ?_
  refine r_get (pc' := 34) (v := .int (mI M5 t 63)) hx (hd 20) fl_12_620 ht rfl (by decide) rfl ?_
  refine r_i2l (pc' := 35) hx (hd 21) rfl ?_
  refine r_last (pc' := 36) (k := 3) hx (hd 22) h6 (by decide) (by decide) rfl (fun M7 => ?_)
  refine r_aload_n (pc' := 37) hx (hd 23) rfl 0 rfl rfl ?_
  refine r_get (pc' := 40) (v := .ref (t + 19)) hx (hd 24) fl_12_110 ht rfl (by decide) rfl ?_
  have h8 := hL.1 _ _ _ ht 36 19 21 13 rfl
  refine r_iconst (pc' := 41) (v := 4) hx (hd 25) (by decide) rfl ?_
  refine r_aload_n (pc' := 42) hx (hd 26) rfl 0 rfl rfl ?_
  refine r_get (pc' := 45) (v := .ref (t + 2)) hx (hd 27) fl_12_13 ht rfl (by decide) rfl ?_
  have h9 := hL.1 _ _ _ ht 3 2 20 5594 rfl
  refine r_bipush (pc' := 47) (v := 12) hx (hd 28) (by decide) rfl ?_
  refine r_iald (pc' := 48) (k := 12) hx (hd 29) h9 (by decide) (by decide) rfl ?_
  refine r_i2l (pc' := 49) hx (hd 30) rfl ?_
  refine r_last (pc' := 50) (k := 4) hx (hd 31) h8 (by decide) (by decide) rfl (fun M10 => ?_)
  refine r_aload_n (pc' := 51) hx (hd 32) rfl 0 rfl rfl ?_
  refine r_get (pc' := 54) (v := .ref (t + 19)) hx (hd 33) fl_12_110 ht rfl (by decide) rfl ?_
  have h11 := hL.1 _ _ _ ht 36 19 21 13 rfl
  refine r_iconst (pc' := 55) (v := 5) hx (hd 34) (by decide) rfl ?_
  refine r_aload_n (pc' := 56) hx (hd 35) rfl 0 rfl rfl ?_
  refine r_get (pc' := 59) (v := .ref (t + 2)) hx (hd 36) fl_12_13 ht rfl (by decide) rfl ?_
  have h12 := hL.1 _ _ _ ht 3 2 20 5594 rfl
  refine r_bipush (pc' := 61) (v := 14) hx (hd 37) (by decide) rfl ?_
  refine r_iald (pc' := 62) (k := 14) hx (hd 38) h12 (by decide) (by decide) rfl ?_
  refine r_i2l (pc' := 63) hx (hd 39) rfl ?_
  refine r_last (pc' := 64) (k := 5) hx (hd 40) h11 (by decide) (by decide) rfl (fun M13 => ?_)
  refine r_aload_n (pc' := 65) hx (hd 41) rfl 0 rfl rfl ?_
  refine r_iconst (pc' := 66) (v := 0) hx (hd 42) (by decide) rfl ?_
  refine r_putZ (pc' := 69) hx (hd 43) fp_12_614 ht rfl (by decide) rfl rfl (fun M14 => ?_)
  refine r_aload_n (pc' := 70) hx (hd 44) rfl 0 rfl rfl ?_
  refine r_get (pc' := 73) (v := .ref (t + 40)) hx (hd 45) fl_12_179 ht rfl (by decide) rfl ?_
  have h15 := hL.1 _ _ _ ht 61 40 20 96 rfl
  refine r_iload_n (pc' := 74) hx (hd 46) rfl 1 rfl rfl ?_
  refine r_iconst (pc' := 75) (v := 5) hx (hd 47) (by decide) rfl ?_
  refine r_iadd (pc' := 76) hx (hd 48) rfl ?_
  refine r_gd (fun h16 => ?_)
  refine r_iald (pc' := 77) (k := ix (p1 + 5)) hx (hd 49) h15 h16 rfl rfl ?_
  refine r_aload_n (pc' := 78) hx (hd 50) rfl 0 rfl rfl ?_
  refine r_get (pc' := 81) (v := .ref (t + 40)) hx (hd 51) fl_12_179 ht rfl (by decide) rfl ?_
  have h17 := hL.1 _ _ _ ht 61 40 20 96 rfl
  refine r_iload_n (pc' := 82) hx (hd 52) rfl 1 rfl rfl ?_
  refine r_bipush (pc' := 84) (v := 6) hx (hd 53) (by decide) rfl ?_
  refine r_iadd (pc' := 85) hx (hd 54) rfl ?_
  refine r_gd (fun h18 => ?_)
  refine r_iald (pc' := 86) (k := ix (p1 + 6)) hx (hd 55) h17 h18 rfl rfl ?_
  refine r_jn1 110 (fun M19 => [(0, .ref t), (1, .int p1)]) (fun M19 => []) (fun M19 => M19) (fun M19 => ?_) (fun j20 hj21 => ?_)
  · skip
    refine r_aload_n (pc' := 111) hx (hd 70) rfl 0 rfl rfl ?_
    refine r_iload_n (pc' := 112) hx (hd 71) rfl 1 rfl rfl ?_
    refine r_iconst (pc' := 113) (v := 1) hx (hd 72) (by decide) rfl ?_
    refine r_iadd (pc' := 114) hx (hd 73) rfl ?_
    refine r_callVI (pc' := 117) (As := [.int (p1 + 1)]) (rest := []) hx (hd 74) md_X12_sumOf mi_X12_sumOf ms_X12_sumOf ml_12_623 (cX12_sumOf (xl x) w hL t ht (p1 + 1) M19) ht rfl (by decide) ⟨Nat.le_of_ble_eq_true rfl, Nat.le_of_ble_eq_true rfl⟩ rfl rfl (Nat.le_of_ble_eq_true rfl) (fun r23 => .int r23 :: []) (fun _ => rfl) rfl (fun r23 M22 => ?_)
    refine r_istore_n (pc' := 118) (L' := [(2, .int r23), (0, .ref t), (1, .int p1)]) hx (hd 75) rfl (by decide) rfl rfl ?_
    refine r_aload_n (pc' := 119) hx (hd 76) rfl 1 rfl rfl ?_
    refine r_iload_n (pc' := 120) hx (hd 77) rfl 2 rfl rfl ?_
    refine r_iconst (pc' := 121) (v := 3) hx (hd 78) (by decide) rfl ?_
    refine r_iadd (pc' := 122) hx (hd 79) rfl ?_
    refine r_callVI (pc' := 125) (As := [.int (p1 + 3)]) (rest := []) hx (hd 80) md_X12_sumOf mi_X12_sumOf ms_X12_sumOf ml_12_623 (cX12_sumOf (xl x) w hL t ht (p1 + 3) M22) ht rfl (by decide) ⟨Nat.le_of_ble_eq_true rfl, Nat.le_of_ble_eq_true rfl⟩ rfl rfl (Nat.le_of_ble_eq_true rfl) (fun r25 => .int r25 :: []) (fun _ => rfl) rfl (fun r25 M24 => ?_)
    refine r_istore_n (pc' := 126) (L' := [(3, .int r25), (2, .int r23), (0, .ref t), (1, .int p1)]) hx (hd 81) rfl (by decide) rfl rfl ?_
    refine r_aload_n (pc' := 127) hx (hd 82) rfl 2 rfl rfl ?_
    refine r_get (pc' := 130) (v := .int (mI M24 t 65)) hx (hd 83) fl_12_614 ht rfl (by decide) rfl ?_
    refine r_if_eq (tgt := 136) (pc' := 133) hx (hd 84) (by decide) (fun _ => ?_) rfl (fun _ => ?_)
    · skip
      refine r_aload_n (pc' := 137) hx (hd 87) rfl 2 rfl rfl ?_
      refine r_aload_n (pc' := 138) hx (hd 88) rfl 2 rfl rfl ?_
      refine r_get (pc' := 141) (v := .ref (t + 40)) hx (hd 89) fl_12_179 ht rfl (by decide) rfl ?_
      have h26 := hL.1 _ _ _ ht 61 40 20 96 rfl
      refine r_iload_n (pc' := 142) hx (hd 90) rfl 3 rfl rfl ?_
      refine r_gd (fun h27 => ?_)
      refine r_iald (pc' := 143) (k := ix p1) hx (hd 91) h26 h27 rfl rfl ?_
      refine r_iload_n (pc' := 144) hx (hd 92) rfl 1 rfl rfl ?_
      refine r_iload_n (pc' := 145) hx (hd 93) rfl 0 rfl rfl ?_
      refine r_callVI (pc' := 148) (As := [.int (mI M24 (t + 40) (ix p1)), .int r23, .int r25]) (rest := []) hx (hd 94) md_X12_act mi_X12_act ms_X12_act ml_12_626 (cX12_act (xl x) w hL t ht (mI M24 (t + 40) (ix p1)) r23 r25 M24) ht rfl (by decide) ⟨Nat.le_of_ble_eq_true rfl, Nat.le_of_ble_eq_true rfl⟩ rfl rfl (Nat.le_of_ble_eq_true rfl) (fun r29 => .int r29 :: []) (fun _ => rfl) rfl (fun r29 M28 => ?_)
      refine r_istore (pc' := 150) (L' := [(4, .int r29), (3, .int r25), (2, .int r23), (0, .ref t), (1, .int p1)]) hx (hd 95) (by decide) rfl rfl ?_
      refine r_iload (pc' := 152) hx (hd 96) 0 rfl rfl ?_
      refine r_if_ge (tgt := 158) (pc' := 155) hx (hd 97) (by decide) (fun _ => ?_) rfl (fun _ => ?_)
      · skip
        refine r_aload_n (pc' := 159) hx (hd 100) rfl 3 rfl rfl ?_
        refine r_aload_n (pc' := 160) hx (hd 101) rfl 3 rfl rfl ?_
        refine r_get (pc' := 163) (v := .ref (t + 40)) hx (hd 102) fl_12_179 ht rfl (by decide) rfl ?_
        have h30 := hL.1 _ _ _ ht 61 40 20 96 rfl
        refine r_iload_n (pc' := 164) hx (hd 103) rfl 4 rfl rfl ?_
        refine r_gd (fun h31 => ?_)
        refine r_iald (pc' := 165) (k := ix p1) hx (hd 104) h30 h31 rfl rfl ?_
        refine r_iconst (pc' := 166) (v := 2) hx (hd 105) (by decide) rfl ?_
        refine r_jn1 178 (fun v32 => [(0, .ref t)]) (fun v32 => [.int v32, .ref t]) (fun v32 => M28) (fun v32 => ?_) (fun j33 hj34 => ?_)
        · skip
          refine r_putI (pc' := 181) hx (hd 111) fp_12_620 ht rfl (by decide) rfl (fun M35 => ?_)
          refine r_aload_n (pc' := 182) hx (hd 112) rfl 0 rfl rfl ?_
          refine r_dup (pc' := 183) hx (hd 113) rfl rfl ?_
          refine r_get (pc' := 186) (v := .int (mI M35 t 62)) hx (hd 114) fl_12_617 ht rfl (by decide) rfl ?_
          refine r_iconst (pc' := 187) (v := 1) hx (hd 115) (by decide) rfl ?_
          refine r_iadd (pc' := 188) hx (hd 116) rfl ?_
          refine r_putI (pc' := 191) hx (hd 117) fp_12_617 ht rfl (by decide) rfl (fun M36 => ?_)
          refine r_iconst (pc' := 192) (v := 0) hx (hd 118) (by decide) rfl ?_
          exact r_iret hx (hd 119) rfl rfl hz
        refine r_icmp_ne (tgt := 174) (pc' := 169) hx (hd 106) (by decide) (fun _ => ?_) rfl (fun _ => ?_)
        · skip
          refine r_aload_n (pc' := 175) hx (hd 109) rfl 3 rfl rfl ?_
          refine r_get (pc' := 178) (v := .int (mI M28 t 63)) hx (hd 110) fl_12_620 ht rfl (by decide) rfl ?_
          refine r_sub [3] rfl ?_
          exact hj34 (mI M28 t 63)
        · skip
          refine r_iload (pc' := 171) hx (hd 107) 0 rfl rfl ?_
          refine r_goto (tgt := 178) hx (hd 108) (by decide) ?_
          refine r_sub [3] rfl ?_
          exact hj34 r29
      · skip
        refine r_bipush (pc' := 157) (v := (-3)) hx (hd 98) (by decide) rfl ?_
        exact r_iret hx (hd 99) rfl rfl hz
    · skip
      refine r_bipush (pc' := 135) (v := (-3)) hx (hd 85) (by decide) rfl ?_
      exact r_iret hx (hd 86) rfl rfl hz
  refine r_icmp_ge (tgt := 110) (pc' := 89) hx (hd 56) (by decide) (fun _ => ?_) rfl (fun _ => ?_)
  · skip
    exact hj21 M14
  · skip
    refine r_aload_n (pc' := 90) hx (hd 57) rfl 0 rfl rfl ?_
    refine r_iload_n (pc' := 91) hx (hd 58) rfl 1 rfl rfl ?_
    refine r_iconst (pc' := 92) (v := 5) hx (hd 59) (by decide) rfl ?_
    refine r_iadd (pc' := 93) hx (hd 60) rfl ?_
    refine r_callVI (pc' := 96) (As := [.int (p1 + 5)]) (rest := []) hx (hd 61) md_X12_sumOf mi_X12_sumOf ms_X12_sumOf ml_12_623 (cX12_sumOf (xl x) w hL t ht (p1 + 5) M14) ht rfl (by decide) ⟨Nat.le_of_ble_eq_true rfl, Nat.le_of_ble_eq_true rfl⟩ rfl rfl (Nat.le_of_ble_eq_true rfl) (fun r38 => .int r38 :: []) (fun _ => rfl) rfl (fun r38 M37 => ?_)
    refine r_istore_n (pc' := 97) (L' := [(2, .int r38), (0, .ref t), (1, .int p1)]) hx (hd 62) rfl (by decide) rfl rfl ?_
    refine r_aload_n (pc' := 98) hx (hd 63) rfl 1 rfl rfl ?_
    refine r_get (pc' := 101) (v := .int (mI M37 t 65)) hx (hd 64) fl_12_614 ht rfl (by decide) rfl ?_
    refine r_jn0 108 ([]) ([]) (M37) (?_) (fun j39 hj40 => ?_)
    · skip
      refine r_iconst (pc' := 109) (v := 0) hx (hd 68) (by decide) rfl ?_
      exact r_iret hx (hd 69) rfl rfl hz
    refine r_if_ne (tgt := 108) (pc' := 104) hx (hd 65) (by decide) (fun _ => ?_) rfl (fun _ => ?_)
    · skip
      refine r_sub [] rfl ?_
      exact hj40
    · skip
      refine r_iload_n (pc' := 105) hx (hd 66) rfl 0 rfl rfl ?_
      refine r_if_ne (tgt := 110) (pc' := 108) hx (hd 67) (by decide) (fun _ => ?_) rfl (fun _ => ?_)
      · skip
        refine r_sub [1, 2] rfl ?_
        exact hj21 M37
      · skip
        refine r_sub [] rfl ?_
        exact hj40
abbrev yX12_giveBack : MethodName := ({ cls := "CribbageRoomModel", name := "giveBack", desc := "(I)V" } : Jvm.MethodName)
def tbX12_giveBack : List (Nat × Instr × Nat) := [(0, .aload_n 0, 1), (1, .bipush 17, 2), (3, .invokevirtual 205, 3), (6, .iconst 0, 1), (7, .istore_n 2, 1), (8, .iload_n 2, 1), (9, .sipush 1952, 3), (12, .if_icmp .ge 21, 3), (15, .aload_n 0, 1), (16, .getfield 23, 3), (19, .iload_n 2, 1), (20, .aload_n 0, 1), (21, .getfield 29, 3), (24, .iload_n 2, 1), (25, .iaload, 1), (26, .iastore, 1), (27, .iinc 2 1, 3), (30, .goto (-22), 3), (33, .iconst 0, 1), (34, .istore_n 2, 1), (35, .iload_n 2, 1), (36, .bipush 16, 2), (38, .if_icmp .ge 21, 3), (41, .aload_n 0, 1), (42, .getfield 26, 3), (45, .iload_n 2, 1), (46, .aload_n 0, 1), (47, .getfield 32, 3), (50, .iload_n 2, 1), (51, .iaload, 1), (52, .iastore, 1), (53, .iinc 2 1, 3), (56, .goto (-21), 3), (59, .aload_n 0, 1), (60, .iload_n 1, 1), (61, .putfield 194, 3), (64, .return_, 1)]
theorem dX12_giveBack : ∀ q ∈ tbX12_giveBack, decode prog_14_method_132_code q.1 = .ok q.2 := by decide +kernel
set_option maxRecDepth 20000 in
theorem cX12_giveBack (l : Launch) (w : WX) (hL : Lay w) (t : Nat) (ht : Wat w t 12 0) (p1 : Int32) (M : Mem) : Ct l w yX12_giveBack prog_14_method_132_code 3 (Option.none : Option FieldType) 1 22 evU emU [.ref t, .int p1] M (FX12_giveBack t p1 M) := by
  refine ct_of (by decide) (Nat.le_of_ble_eq_true rfl) (fun x hl hx hb hz => ?_)
  subst hl
  have hd : ∀ i, DAt (xc x).code (tbX12_giveBack[i]?) := fun i => by rw [hb]; exact dat_of dX12_giveBack i
  show C x w (Qn x w evU emU) 3 0 [(0, .ref t), (1, .int p1)] [] M (FX12_giveBack t p1 M)
  unfold FX12_giveBack
  refine r_aload_n (pc' := 1) hx (hd 0) rfl 0 rfl rfl ?_
  refine r_bipush (pc' := 3) (v := 17) hx (hd 1) (by decide) rfl ?_
  refine r_callVU (pc' := 6) (As := [.int 17]) (rest := []) hx (hd 2) md_X12_putBack mi_X12_putBack ms_X12_putBack ml_12_205 (cX12_putBack (xl x) w hL t ht 17 M) ht rfl (by decide) ⟨Nat.le_of_ble_eq_true rfl, Nat.le_of_ble_eq_true rfl⟩ rfl rfl (Nat.le_of_ble_eq_true rfl) rfl (fun M1 => ?_)
  refine r_iconst (pc' := 7) (v := 0) hx (hd 3) (by decide) rfl ?_
  refine r_istore_n (pc' := 8) (L' := [(2, .int 0), (0, .ref t), (1, .int p1)]) hx (hd 4) rfl (by decide) rfl rfl ?_
  refine r_sub [1, 2, 0] rfl ?_
  refine r_wl2 (fun v2 M3 => [(0, .ref t), (1, .int p1), (2, .int v2)]) (fun v2 M3 => []) (fun v2 M3 => M3) (fun v2 M3 rec4 ih5 => ?_) fuel 0 M1
  refine r_iload_n (pc' := 9) hx (hd 5) rfl 2 rfl rfl ?_
  refine r_sipush (pc' := 12) (v := 1952) hx (hd 6) (by decide) rfl ?_
  refine r_icmp_ge (tgt := 33) (pc' := 15) hx (hd 7) (by decide) (fun _ => ?_) rfl (fun _ => ?_)
  · skip
    refine r_iconst (pc' := 34) (v := 0) hx (hd 18) (by decide) rfl ?_
    refine r_istore_n (pc' := 35) (L' := [(2, .int 0), (0, .ref t), (1, .int p1)]) hx (hd 19) rfl (by decide) rfl rfl ?_
    refine r_sub [1, 2, 0] rfl ?_
    refine r_wl2 (fun v6 M7 => [(0, .ref t), (1, .int p1), (2, .int v6)]) (fun v6 M7 => []) (fun v6 M7 => M7) (fun v6 M7 rec8 ih9 => ?_) fuel 0 M3
    refine r_iload_n (pc' := 36) hx (hd 20) rfl 2 rfl rfl ?_
    refine r_bipush (pc' := 38) (v := 16) hx (hd 21) (by decide) rfl ?_
    refine r_icmp_ge (tgt := 59) (pc' := 41) hx (hd 22) (by decide) (fun _ => ?_) rfl (fun _ => ?_)
    · skip
      refine r_aload_n (pc' := 60) hx (hd 33) rfl 0 rfl rfl ?_
      refine r_iload_n (pc' := 61) hx (hd 34) rfl 1 rfl rfl ?_
      refine r_putI (pc' := 64) hx (hd 35) fp_12_194 ht rfl (by decide) rfl (fun M10 => ?_)
      exact r_vret hx (hd 36) rfl rfl hz
    · skip
      refine r_aload_n (pc' := 42) hx (hd 23) rfl 0 rfl rfl ?_
      refine r_get (pc' := 45) (v := .ref (t + 6)) hx (hd 24) fl_12_26 ht rfl (by decide) rfl ?_
      have h11 := hL.1 _ _ _ ht 7 6 20 16 rfl
      refine r_iload_n (pc' := 46) hx (hd 25) rfl 2 rfl rfl ?_
      refine r_aload_n (pc' := 47) hx (hd 26) rfl 0 rfl rfl ?_
      refine r_get (pc' := 50) (v := .ref (t + 8)) hx (hd 27) fl_12_32 ht rfl (by decide) rfl ?_
      have h12 := hL.1 _ _ _ ht 10 8 20 16 rfl
      refine r_iload_n (pc' := 51) hx (hd 28) rfl 2 rfl rfl ?_
      refine r_gd (fun h13 => ?_)
      refine r_iald (pc' := 52) (k := ix v6) hx (hd 29) h12 h13 rfl rfl ?_
      refine r_gd (fun h15 => ?_)
      refine r_iast (pc' := 53) (k := ix v6) hx (hd 30) h11 h15 rfl rfl (fun M14 => ?_)
      refine r_iinc (pc' := 56) (v := 1) hx (hd 31) 2 rfl (by decide) (by decide) (fun v16 => [(2, .int v16), (0, .ref t), (1, .int p1)]) (fun _ => rfl) rfl (fun v16 => ?_)
      refine r_goto (tgt := 35) hx (hd 32) (by decide) ?_
      refine r_sub [1, 2, 0] rfl ?_
      exact ih9 v16 M14
  · skip
    refine r_aload_n (pc' := 16) hx (hd 8) rfl 0 rfl rfl ?_
    refine r_get (pc' := 19) (v := .ref (t + 5)) hx (hd 9) fl_12_23 ht rfl (by decide) rfl ?_
    have h17 := hL.1 _ _ _ ht 6 5 20 2196 rfl
    refine r_iload_n (pc' := 20) hx (hd 10) rfl 2 rfl rfl ?_
    refine r_aload_n (pc' := 21) hx (hd 11) rfl 0 rfl rfl ?_
    refine r_get (pc' := 24) (v := .ref (t + 7)) hx (hd 12) fl_12_29 ht rfl (by decide) rfl ?_
    have h18 := hL.1 _ _ _ ht 9 7 20 1952 rfl
    refine r_iload_n (pc' := 25) hx (hd 13) rfl 2 rfl rfl ?_
    refine r_gd (fun h19 => ?_)
    refine r_iald (pc' := 26) (k := ix v2) hx (hd 14) h18 h19 rfl rfl ?_
    refine r_gd (fun h21 => ?_)
    refine r_iast (pc' := 27) (k := ix v2) hx (hd 15) h17 h21 rfl rfl (fun M20 => ?_)
    refine r_iinc (pc' := 30) (v := 1) hx (hd 16) 2 rfl (by decide) (by decide) (fun v22 => [(2, .int v22), (0, .ref t), (1, .int p1)]) (fun _ => rfl) rfl (fun v22 => ?_)
    refine r_goto (tgt := 8) hx (hd 17) (by decide) ?_
    refine r_sub [1, 2, 0] rfl ?_
    exact ih5 v22 M20
abbrev yX12_orders : MethodName := ({ cls := "CribbageRoomModel", name := "orders", desc := "()I" } : Jvm.MethodName)
def tbX12_orders : List (Nat × Instr × Nat) := [(0, .aload_n 0, 1), (1, .iconst 0, 1), (2, .putfield 188, 3), (5, .aload_n 0, 1), (6, .iconst (-1), 1), (7, .putfield 182, 3), (10, .aload_n 0, 1), (11, .iconst 1, 1), (12, .invokevirtual 409, 3), (15, .aload_n 0, 1), (16, .invokevirtual 630, 3), (19, .aload_n 0, 1), (20, .getfield 270, 3), (23, .ifCond .ne 23, 3), (26, .aload_n 0, 1), (27, .bipush 59, 2), (29, .invokevirtual 341, 3), (32, .ifCond .eq 14, 3), (35, .aload_n 0, 1), (36, .invokevirtual 274, 3), (39, .aload_n 0, 1), (40, .invokevirtual 630, 3), (43, .goto (-24), 3), (46, .aload_n 0, 1), (47, .invokevirtual 415, 3), (50, .aload_n 0, 1), (51, .getfield 270, 3), (54, .ifCond .eq 10, 3), (57, .aload_n 0, 1), (58, .bipush (-6), 2), (60, .invokevirtual 197, 3), (63, .ireturn, 1), (64, .aload_n 0, 1), (65, .bipush 17, 2), (67, .invokevirtual 201, 3), (70, .aload_n 0, 1), (71, .getfield 194, 3), (74, .istore_n 1, 1), (75, .iconst 0, 1), (76, .istore_n 2, 1), (77, .iload_n 2, 1), (78, .sipush 1952, 3), (81, .if_icmp .ge 21, 3), (84, .aload_n 0, 1), (85, .getfield 29, 3), (88, .iload_n 2, 1), (89, .aload_n 0, 1), (90, .getfield 23, 3), (93, .iload_n 2, 1), (94, .iaload, 1), (95, .iastore, 1), (96, .iinc 2 1, 3), (99, .goto (-22), 3), (102, .iconst 0, 1), (103, .istore_n 2, 1), (104, .iload_n 2, 1), (105, .bipush 16, 2), (107, .if_icmp .ge 21, 3), (110, .aload_n 0, 1), (111, .getfield 32, 3), (114, .iload_n 2, 1), (115, .aload_n 0, 1), (116, .getfield 26, 3), (119, .iload_n 2, 1), (120, .iaload, 1), (121, .iastore, 1), (122, .iinc 2 1, 3), (125, .goto (-21), 3), (128, .aload_n 0, 1), (129, .iconst 0, 1), (130, .putfield 617, 3), (133, .aload_n 0, 1), (134, .iconst (-1), 1), (135, .putfield 620, 3), (138, .iconst 0, 1), (139, .istore_n 2, 1), (140, .iload_n 2, 1), (141, .aload_n 0, 1), (142, .getfield 401, 3), (145, .if_icmp .ge 61, 3), (148, .iconst 0, 1), (149, .istore_n 3, 1), (150, .iload_n 3, 1), (151, .aload_n 0, 1), (152, .getfield 179, 3), (155, .bipush 8, 2), (157, .iload_n 2, 1), (158, .imul, 1), (159, .bipush 7, 2), (161, .iadd, 1), (162, .iaload, 1), (163, .if_icmp .ge 37, 3), (166, .aload_n 0, 1), (167, .bipush 8, 2), (169, .iload_n 2, 1), (170, .imul, 1), (171, .invokevirtual 633, 3), (174, .ifCond .ge 20, 3), (177, .aload_n 0, 1), (178, .iload_n 1, 1), (179, .invokevirtual 636, 3), (182, .aload_n 0, 1), (183, .iload_n 2, 1), (184, .putfield 182, 3), (187, .aload_n 0, 1), (188, .bipush (-3), 2), (190, .invokevirtual 197, 3), (193, .ireturn, 1), (194, .iinc 3 1, 3), (197, .goto (-47), 3), (200, .iinc 2 1, 3), (203, .goto (-63), 3), (206, .aload_n 0, 1), (207, .aload_n 0, 1), (208, .getfield 617, 3), (211, .invokevirtual 197, 3), (214, .ireturn, 1)]
theorem dX12_orders : ∀ q ∈ tbX12_orders, decode prog_14_method_131_code q.1 = .ok q.2 := by decide +kernel
set_option maxRecDepth 20000 in
theorem cX12_orders (l : Launch) (w : WX) (hL : Lay w) (t : Nat) (ht : Wat w t 12 0) (M : Mem) : Ct l w yX12_orders prog_14_method_131_code 4 (Option.some FieldType.int) 12 284 evIM emM [.ref t] M (FX12_orders t M) := by
  refine ct_of (by decide) (Nat.le_of_ble_eq_true rfl) (fun x hl hx hb hz => ?_)
  subst hl
  have hd : ∀ i, DAt (xc x).code (tbX12_orders[i]?) := fun i => by rw [hb]; exact dat_of dX12_orders i
  show C x w (Qn x w evIM emM) 4 0 [(0, .ref t)] [] M (FX12_orders t M)
  unfold FX12_orders
  refine r_aload_n (pc' := 1) hx (hd 0) rfl 0 rfl rfl ?_
  refine r_iconst (pc' := 2) (v := 0) hx (hd 1) (by decide) rfl ?_
  refine r_putI (pc' := 5) hx (hd 2) fp_12_188 ht rfl (by decide) rfl (fun M1 => ?_)
  refine r_aload_n (pc' := 6) hx (hd 3) rfl 0 rfl rfl ?_
  refine r_iconst (pc' := 7) (v := (-1)) hx (hd 4) (by decide) rfl ?_
  refine r_putI (pc' := 10) hx (hd 5) fp_12_182 ht rfl (by decide) rfl (fun M2 => ?_)
  refine r_aload_n (pc' := 11) hx (hd 6) rfl 0 rfl rfl ?_
  refine r_iconst (pc' := 12) (v := 1) hx (hd 7) (by decide) rfl ?_
  refine r_callVU (pc' := 15) (As := [.int 1]) (rest := []) hx (hd 8) md_X12_beginText mi_X12_beginText ms_X12_beginText ml_12_409 (cX12_beginText (xl x) w hL t ht 1 M2) ht rfl (by decide) ⟨Nat.le_of_ble_eq_true rfl, Nat.le_of_ble_eq_true rfl⟩ rfl rfl (Nat.le_of_ble_eq_true rfl) rfl (fun M3 => ?_)
  refine r_aload_n (pc' := 16) hx (hd 9) rfl 0 rfl rfl ?_
  refine r_callVU (pc' := 19) (As := []) (rest := []) hx (hd 10) md_X12_readOrder mi_X12_readOrder ms_X12_readOrder ml_12_630 (cX12_readOrder (xl x) w hL t ht M3) ht rfl (by decide) ⟨Nat.le_of_ble_eq_true rfl, Nat.le_of_ble_eq_true rfl⟩ rfl rfl (Nat.le_of_ble_eq_true rfl) rfl (fun M4 => ?_)
  refine r_wl1 (fun M5 => [(0, .ref t)]) (fun M5 => []) (fun M5 => M5) (fun M5 rec6 ih7 => ?_) fuel M4
  refine r_aload_n (pc' := 20) hx (hd 11) rfl 0 rfl rfl ?_
  refine r_get (pc' := 23) (v := .int (mI M5 t 19)) hx (hd 12) fl_12_270 ht rfl (by decide) rfl ?_
  refine r_jn0 46 ([(0, .ref t)]) ([]) (M5) (?_) (fun j8 hj9 => ?_)
  · skip
    refine r_aload_n (pc' := 47) hx (hd 23) rfl 0 rfl rfl ?_
    refine r_callVU (pc' := 50) (As := []) (rest := []) hx (hd 24) md_X12_endText mi_X12_endText ms_X12_endText ml_12_415 (cX12_endText (xl x) w hL t ht M5) ht rfl (by decide) ⟨Nat.le_of_ble_eq_true rfl, Nat.le_of_ble_eq_true rfl⟩ rfl rfl (Nat.le_of_ble_eq_true rfl) rfl (fun M10 => ?_)
    refine r_aload_n (pc' := 51) hx (hd 25) rfl 0 rfl rfl ?_
    refine r_get (pc' := 54) (v := .int (mI M10 t 19)) hx (hd 26) fl_12_270 ht rfl (by decide) rfl ?_
    refine r_if_eq (tgt := 64) (pc' := 57) hx (hd 27) (by decide) (fun _ => ?_) rfl (fun _ => ?_)
    · skip
      refine r_aload_n (pc' := 65) hx (hd 32) rfl 0 rfl rfl ?_
      refine r_bipush (pc' := 67) (v := 17) hx (hd 33) (by decide) rfl ?_
      refine r_callVU (pc' := 70) (As := [.int 17]) (rest := []) hx (hd 34) md_X12_keepAll mi_X12_keepAll ms_X12_keepAll ml_12_201 (cX12_keepAll (xl x) w hL t ht 17 M10) ht rfl (by decide) ⟨Nat.le_of_ble_eq_true rfl, Nat.le_of_ble_eq_true rfl⟩ rfl rfl (Nat.le_of_ble_eq_true rfl) rfl (fun M11 => ?_)
      refine r_aload_n (pc' := 71) hx (hd 35) rfl 0 rfl rfl ?_
      refine r_get (pc' := 74) (v := .int (mI M11 t 8)) hx (hd 36) fl_12_194 ht rfl (by decide) rfl ?_
      refine r_nmI (fun v12 => ?_)
      refine r_istore_n (pc' := 75) (L' := [(1, .int v12), (0, .ref t)]) hx (hd 37) rfl (by decide) rfl rfl ?_
      refine r_iconst (pc' := 76) (v := 0) hx (hd 38) (by decide) rfl ?_
      refine r_istore_n (pc' := 77) (L' := [(2, .int 0), (1, .int v12), (0, .ref t)]) hx (hd 39) rfl (by decide) rfl rfl ?_
      refine r_sub [2, 1, 0] rfl ?_
      refine r_wl2 (fun v13 M14 => [(0, .ref t), (1, .int v12), (2, .int v13)]) (fun v13 M14 => []) (fun v13 M14 => M14) (fun v13 M14 rec15 ih16 => ?_) fuel 0 M11
      refine r_iload_n (pc' := 78) hx (hd 40) rfl 2 rfl rfl ?_
      refine r_sipush (pc' := 81) (v := 1952) hx (hd 41) (by decide) rfl ?_
      refine r_icmp_ge (tgt := 102) (pc' := 84) hx (hd 42) (by decide) (fun _ => ?_) rfl (fun _ => ?_)
      · skip
        refine r_iconst (pc' := 103) (v := 0) hx (hd 53) (by decide) rfl ?_
        refine r_istore_n (pc' := 104) (L' := [(2, .int 0), (0, .ref t), (1, .int v12)]) hx (hd 54) rfl (by decide) rfl rfl ?_
        refine r_sub [1, 2, 0] rfl ?_
        refine r_wl2 (fun v17 M18 => [(0, .ref t), (1, .int v12), (2, .int v17)]) (fun v17 M18 => []) (fun v17 M18 => M18) (fun v17 M18 rec19 ih20 => ?_) fuel 0 M14
        refine r_iload_n (pc' := 105) hx (hd 55) rfl 2 rfl rfl ?_
        refine r_bipush (pc' := 107) (v := 16) hx (hd 56) (by decide) rfl ?_
        refine r_icmp_ge (tgt := 128) (pc' := 110) hx (hd 57) (by decide) (fun _ => ?_) rfl (fun _ => ?_)
        · skip
          refine r_aload_n (pc' := 129) hx (hd 68) rfl 0 rfl rfl ?_
          refine r_iconst (pc' := 130) (v := 0) hx (hd 69) (by decide) rfl ?_
          refine r_putI (pc' := 133) hx (hd 70) fp_12_617 ht rfl (by decide) rfl (fun M21 => ?_)
          refine r_aload_n (pc' := 134) hx (hd 71) rfl 0 rfl rfl ?_
          refine r_iconst (pc' := 135) (v := (-1)) hx (hd 72) (by decide) rfl ?_
          refine r_putI (pc' := 138) hx (hd 73) fp_12_620 ht rfl (by decide) rfl (fun M22 => ?_)
          refine r_iconst (pc' := 139) (v := 0) hx (hd 74) (by decide) rfl ?_
          refine r_istore_n (pc' := 140) (L' := [(2, .int 0), (0, .ref t), (1, .int v12)]) hx (hd 75) rfl (by decide) rfl rfl ?_
          refine r_sub [1, 2, 0] rfl ?_
          refine r_wl2 (fun v23 M24 => [(0, .ref t), (1, .int v12), (2, .int v23)]) (fun v23 M24 => []) (fun v23 M24 => M24) (fun v23 M24 rec25 ih26 => ?_) fuel 0 M22
          refine r_iload_n (pc' := 141) hx (hd 76) rfl 2 rfl rfl ?_
          refine r_aload_n (pc' := 142) hx (hd 77) rfl 0 rfl rfl ?_
          refine r_get (pc' := 145) (v := .int (mI M24 t 21)) hx (hd 78) fl_12_401 ht rfl (by decide) rfl ?_
          refine r_icmp_ge (tgt := 206) (pc' := 148) hx (hd 79) (by decide) (fun _ => ?_) rfl (fun _ => ?_)
          · skip
            refine r_aload_n (pc' := 207) hx (hd 112) rfl 0 rfl rfl ?_
            refine r_aload_n (pc' := 208) hx (hd 113) rfl 0 rfl rfl ?_
            refine r_get (pc' := 211) (v := .int (mI M24 t 62)) hx (hd 114) fl_12_617 ht rfl (by decide) rfl ?_
            refine r_callVI (pc' := 214) (As := [.int (mI M24 t 62)]) (rest := []) hx (hd 115) md_X12_tell mi_X12_tell ms_X12_tell ml_12_197 (cX12_tell (xl x) w hL t ht (mI M24 t 62) M24) ht rfl (by decide) ⟨Nat.le_of_ble_eq_true rfl, Nat.le_of_ble_eq_true rfl⟩ rfl rfl (Nat.le_of_ble_eq_true rfl) (fun r28 => .int r28 :: []) (fun _ => rfl) rfl (fun r28 M27 => ?_)
            exact r_iret hx (hd 116) rfl rfl hz
          · skip
            refine r_iconst (pc' := 149) (v := 0) hx (hd 80) (by decide) rfl ?_
            refine r_istore_n (pc' := 150) (L' := [(3, .int 0), (0, .ref t), (1, .int v12), (2, .int v23)]) hx (hd 81) rfl (by decide) rfl rfl ?_
            refine r_sub [1, 2, 3, 0] rfl ?_
            refine r_wl2 (fun v29 M30 => [(0, .ref t), (1, .int v12), (2, .int v23), (3, .int v29)]) (fun v29 M30 => []) (fun v29 M30 => M30) (fun v29 M30 rec31 ih32 => ?_) fuel 0 M24
            refine r_iload_n (pc' := 151) hx (hd 82) rfl 3 rfl rfl ?_
            refine r_aload_n (pc' := 152) hx (hd 83) rfl 0 rfl rfl ?_
            refine r_get (pc' := 155) (v := .ref (t + 40)) hx (hd 84) fl_12_179 ht rfl (by decide) rfl ?_
            have h33 := hL.1 _ _ _ ht 61 40 20 96 rfl
            refine r_bipush (pc' := 157) (v := 8) hx (hd 85) (by decide) rfl ?_
            refine r_iload_n (pc' := 158) hx (hd 86) rfl 2 rfl rfl ?_
            refine r_imul (pc' := 159) hx (hd 87) rfl ?_
            refine r_bipush (pc' := 161) (v := 7) hx (hd 88) (by decide) rfl ?_
            refine r_iadd (pc' := 162) hx (hd 89) rfl ?_
            refine r_gd (fun h34 => ?_)
            refine r_iald (pc' := 163) (k := ix ((8 * v23) + 7)) hx (hd 90) h33 h34 rfl rfl ?_
            refine r_icmp_ge (tgt := 200) (pc' := 166) hx (hd 91) (by decide) (fun _ => ?_) rfl (fun _ => ?_)
            · skip
              refine r_iinc (pc' := 203) (v := 1) hx (hd 110) 2 rfl (by decide) (by decide) (fun v35 => [(2, .int v35), (0, .ref t), (1, .int v12), (3, .int v29)]) (fun _ => rfl) rfl (fun v35 => ?_)
              refine r_goto (tgt := 140) hx (hd 111) (by decide) ?_
              refine r_sub [1, 2, 0] rfl ?_
              exact ih26 v35 M30
            · skip
              refine r_aload_n (pc' := 167) hx (hd 92) rfl 0 rfl rfl ?_
              refine r_bipush (pc' := 169) (v := 8) hx (hd 93) (by decide) rfl ?_
              refine r_iload_n (pc' := 170) hx (hd 94) rfl 2 rfl rfl ?_
              refine r_imul (pc' := 171) hx (hd 95) rfl ?_
              refine r_callVI (pc' := 174) (As := [.int (8 * v23)]) (rest := []) hx (hd 96) md_X12_runOnce mi_X12_runOnce ms_X12_runOnce ml_12_633 (cX12_runOnce (xl x) w hL t ht (8 * v23) M30) ht rfl (by decide) ⟨Nat.le_of_ble_eq_true rfl, Nat.le_of_ble_eq_true rfl⟩ rfl rfl (Nat.le_of_ble_eq_true rfl) (fun r37 => .int r37 :: []) (fun _ => rfl) rfl (fun r37 M36 => ?_)
              refine r_if_ge (tgt := 194) (pc' := 177) hx (hd 97) (by decide) (fun _ => ?_) rfl (fun _ => ?_)
              · skip
                refine r_iinc (pc' := 197) (v := 1) hx (hd 108) 3 rfl (by decide) (by decide) (fun v38 => [(3, .int v38), (0, .ref t), (1, .int v12), (2, .int v23)]) (fun _ => rfl) rfl (fun v38 => ?_)
                refine r_goto (tgt := 150) hx (hd 109) (by decide) ?_
                refine r_sub [1, 2, 3, 0] rfl ?_
                exact ih32 v38 M36
              · skip
                refine r_aload_n (pc' := 178) hx (hd 98) rfl 0 rfl rfl ?_
                refine r_iload_n (pc' := 179) hx (hd 99) rfl 1 rfl rfl ?_
                refine r_callVU (pc' := 182) (As := [.int v12]) (rest := []) hx (hd 100) md_X12_giveBack mi_X12_giveBack ms_X12_giveBack ml_12_636 (cX12_giveBack (xl x) w hL t ht v12 M36) ht rfl (by decide) ⟨Nat.le_of_ble_eq_true rfl, Nat.le_of_ble_eq_true rfl⟩ rfl rfl (Nat.le_of_ble_eq_true rfl) rfl (fun M39 => ?_)
                refine r_aload_n (pc' := 183) hx (hd 101) rfl 0 rfl rfl ?_
                refine r_iload_n (pc' := 184) hx (hd 102) rfl 2 rfl rfl ?_
                refine r_putI (pc' := 187) hx (hd 103) fp_12_182 ht rfl (by decide) rfl (fun M40 => ?_)
                refine r_aload_n (pc' := 188) hx (hd 104) rfl 0 rfl rfl ?_
                refine r_bipush (pc' := 190) (v := (-3)) hx (hd 105) (by decide) rfl ?_
                refine r_callVI (pc' := 193) (As := [.int (-3)]) (rest := []) hx (hd 106) md_X12_tell mi_X12_tell ms_X12_tell ml_12_197 (cX12_tell (xl x) w hL t ht (-3) M40) ht rfl (by decide) ⟨Nat.le_of_ble_eq_true rfl, Nat.le_of_ble_eq_true rfl⟩ rfl rfl (Nat.le_of_ble_eq_true rfl) (fun r42 => .int r42 :: []) (fun _ => rfl) rfl (fun r42 M41 => ?_)
                exact r_iret hx (hd 107) rfl rfl hz
        · skip
          refine r_aload_n (pc' := 111) hx (hd 58) rfl 0 rfl rfl ?_
          refine r_get (pc' := 114) (v := .ref (t + 8)) hx (hd 59) fl_12_32 ht rfl (by decide) rfl ?_
          have h43 := hL.1 _ _ _ ht 10 8 20 16 rfl
          refine r_iload_n (pc' := 115) hx (hd 60) rfl 2 rfl rfl ?_
          refine r_aload_n (pc' := 116) hx (hd 61) rfl 0 rfl rfl ?_
          refine r_get (pc' := 119) (v := .ref (t + 6)) hx (hd 62) fl_12_26 ht rfl (by decide) rfl ?_
          have h44 := hL.1 _ _ _ ht 7 6 20 16 rfl
          refine r_iload_n (pc' := 120) hx (hd 63) rfl 2 rfl rfl ?_
          refine r_gd (fun h45 => ?_)
          refine r_iald (pc' := 121) (k := ix v17) hx (hd 64) h44 h45 rfl rfl ?_
          refine r_gd (fun h47 => ?_)
          refine r_iast (pc' := 122) (k := ix v17) hx (hd 65) h43 h47 rfl rfl (fun M46 => ?_)
          refine r_iinc (pc' := 125) (v := 1) hx (hd 66) 2 rfl (by decide) (by decide) (fun v48 => [(2, .int v48), (0, .ref t), (1, .int v12)]) (fun _ => rfl) rfl (fun v48 => ?_)
          refine r_goto (tgt := 104) hx (hd 67) (by decide) ?_
          refine r_sub [1, 2, 0] rfl ?_
          exact ih20 v48 M46
      · skip
        refine r_aload_n (pc' := 85) hx (hd 43) rfl 0 rfl rfl ?_
        refine r_get (pc' := 88) (v := .ref (t + 7)) hx (hd 44) fl_12_29 ht rfl (by decide) rfl ?_
        have h49 := hL.1 _ _ _ ht 9 7 20 1952 rfl
        refine r_iload_n (pc' := 89) hx (hd 45) rfl 2 rfl rfl ?_
        refine r_aload_n (pc' := 90) hx (hd 46) rfl 0 rfl rfl ?_
        refine r_get (pc' := 93) (v := .ref (t + 5)) hx (hd 47) fl_12_23 ht rfl (by decide) rfl ?_
        have h50 := hL.1 _ _ _ ht 6 5 20 2196 rfl
        refine r_iload_n (pc' := 94) hx (hd 48) rfl 2 rfl rfl ?_
        refine r_gd (fun h51 => ?_)
        refine r_iald (pc' := 95) (k := ix v13) hx (hd 49) h50 h51 rfl rfl ?_
        refine r_gd (fun h53 => ?_)
        refine r_iast (pc' := 96) (k := ix v13) hx (hd 50) h49 h53 rfl rfl (fun M52 => ?_)
        refine r_iinc (pc' := 99) (v := 1) hx (hd 51) 2 rfl (by decide) (by decide) (fun v54 => [(2, .int v54), (0, .ref t), (1, .int v12)]) (fun _ => rfl) rfl (fun v54 => ?_)
        refine r_goto (tgt := 77) hx (hd 52) (by decide) ?_
        refine r_sub [1, 2, 0] rfl ?_
        exact ih16 v54 M52
    · skip
      refine r_aload_n (pc' := 58) hx (hd 28) rfl 0 rfl rfl ?_
      refine r_bipush (pc' := 60) (v := (-6)) hx (hd 29) (by decide) rfl ?_
      refine r_callVI (pc' := 63) (As := [.int (-6)]) (rest := []) hx (hd 30) md_X12_tell mi_X12_tell ms_X12_tell ml_12_197 (cX12_tell (xl x) w hL t ht (-6) M10) ht rfl (by decide) ⟨Nat.le_of_ble_eq_true rfl, Nat.le_of_ble_eq_true rfl⟩ rfl rfl (Nat.le_of_ble_eq_true rfl) (fun r56 => .int r56 :: []) (fun _ => rfl) rfl (fun r56 M55 => ?_)
      exact r_iret hx (hd 31) rfl rfl hz
  refine r_if_ne (tgt := 46) (pc' := 26) hx (hd 13) (by decide) (fun _ => ?_) rfl (fun _ => ?_)
  · skip
    exact hj9
  · skip
    refine r_aload_n (pc' := 27) hx (hd 14) rfl 0 rfl rfl ?_
    refine r_bipush (pc' := 29) (v := 59) hx (hd 15) (by decide) rfl ?_
    refine r_callV (pc' := 32) (As := [.int 59]) (rest := []) hx (hd 16) md_X12_isSign mi_X12_isSign ms_X12_isSign ml_12_341 (cX12_isSign (xl x) w hL t ht 59 M5) ht rfl (by decide) ⟨Nat.le_of_ble_eq_true rfl, Nat.le_of_ble_eq_true rfl⟩ rfl rfl (Nat.le_of_ble_eq_true rfl) (fun r57 => .int r57 :: []) (fun _ => M5) (fun _ => ⟨rfl, rfl⟩) rfl (fun r57 _ => ?_)
    refine r_if_eq (tgt := 46) (pc' := 35) hx (hd 17) (by decide) (fun _ => ?_) rfl (fun _ => ?_)
    · skip
      exact hj9
    · skip
      refine r_aload_n (pc' := 36) hx (hd 18) rfl 0 rfl rfl ?_
      refine r_callVU (pc' := 39) (As := []) (rest := []) hx (hd 19) md_X12_next mi_X12_next ms_X12_next ml_12_274 (cX12_next (xl x) w hL t ht M5) ht rfl (by decide) ⟨Nat.le_of_ble_eq_true rfl, Nat.le_of_ble_eq_true rfl⟩ rfl rfl (Nat.le_of_ble_eq_true rfl) rfl (fun M58 => ?_)
      refine r_aload_n (pc' := 40) hx (hd 20) rfl 0 rfl rfl ?_
      refine r_callVU (pc' := 43) (As := []) (rest := []) hx (hd 21) md_X12_readOrder mi_X12_readOrder ms_X12_readOrder ml_12_630 (cX12_readOrder (xl x) w hL t ht M58) ht rfl (by decide) ⟨Nat.le_of_ble_eq_true rfl, Nat.le_of_ble_eq_true rfl⟩ rfl rfl (Nat.le_of_ble_eq_true rfl) rfl (fun M59 => ?_)
      refine r_goto (tgt := 19) hx (hd 22) (by decide) ?_
      exact ih7 M59
abbrev yX12_stopped : MethodName := ({ cls := "CribbageRoomModel", name := "stopped", desc := "()I" } : Jvm.MethodName)
def tbX12_stopped : List (Nat × Instr × Nat) := [(0, .aload_n 0, 1), (1, .iconst 0, 1), (2, .putfield 188, 3), (5, .aload_n 0, 1), (6, .getfield 182, 3), (9, .ireturn, 1)]
theorem dX12_stopped : ∀ q ∈ tbX12_stopped, decode prog_14_method_133_code q.1 = .ok q.2 := by decide +kernel
set_option maxRecDepth 20000 in
theorem cX12_stopped (l : Launch) (w : WX) (hL : Lay w) (t : Nat) (ht : Wat w t 12 0) (M : Mem) : Ct l w yX12_stopped prog_14_method_133_code 1 (Option.some FieldType.int) 0 0 evIM emM [.ref t] M (FX12_stopped t M) := by
  refine ct_of (by decide) (Nat.le_of_ble_eq_true rfl) (fun x hl hx hb hz => ?_)
  subst hl
  have hd : ∀ i, DAt (xc x).code (tbX12_stopped[i]?) := fun i => by rw [hb]; exact dat_of dX12_stopped i
  show C x w (Qn x w evIM emM) 1 0 [(0, .ref t)] [] M (FX12_stopped t M)
  unfold FX12_stopped
  refine r_aload_n (pc' := 1) hx (hd 0) rfl 0 rfl rfl ?_
  refine r_iconst (pc' := 2) (v := 0) hx (hd 1) (by decide) rfl ?_
  refine r_putI (pc' := 5) hx (hd 2) fp_12_188 ht rfl (by decide) rfl (fun M1 => ?_)
  refine r_aload_n (pc' := 6) hx (hd 3) rfl 0 rfl rfl ?_
  refine r_get (pc' := 9) (v := .int (mI M1 t 64)) hx (hd 4) fl_12_182 ht rfl (by decide) rfl ?_
  exact r_iret hx (hd 5) rfl rfl hz
abbrev yX12_layHighest : MethodName := ({ cls := "CribbageRoomModel", name := "layHighest", desc := "(I)V" } : Jvm.MethodName)
def tbX12_layHighest : List (Nat × Instr × Nat) := [(0, .aload_n 0, 1), (1, .aload_n 0, 1), (2, .iload_n 1, 1), (3, .iconst 5, 1), (4, .invokevirtual 238, 3), (7, .invokevirtual 521, 3), (10, .aload_n 0, 1), (11, .aload_n 0, 1), (12, .iload_n 1, 1), (13, .iconst 4, 1), (14, .invokevirtual 238, 3), (17, .invokevirtual 521, 3), (20, .return_, 1)]
theorem dX12_layHighest : ∀ q ∈ tbX12_layHighest, decode prog_14_method_134_code q.1 = .ok q.2 := by decide +kernel
set_option maxRecDepth 20000 in
theorem cX12_layHighest (l : Launch) (w : WX) (hL : Lay w) (t : Nat) (ht : Wat w t 12 0) (p1 : Int32) (M : Mem) : Ct l w yX12_layHighest prog_14_method_134_code 2 (Option.none : Option FieldType) 9 215 evU emU [.ref t, .int p1] M (FX12_layHighest t p1 M) := by
  refine ct_of (by decide) (Nat.le_of_ble_eq_true rfl) (fun x hl hx hb hz => ?_)
  subst hl
  have hd : ∀ i, DAt (xc x).code (tbX12_layHighest[i]?) := fun i => by rw [hb]; exact dat_of dX12_layHighest i
  show C x w (Qn x w evU emU) 2 0 [(0, .ref t), (1, .int p1)] [] M (FX12_layHighest t p1 M)
  unfold FX12_layHighest
  refine r_aload_n (pc' := 1) hx (hd 0) rfl 0 rfl rfl ?_
  refine r_aload_n (pc' := 2) hx (hd 1) rfl 0 rfl rfl ?_
  refine r_iload_n (pc' := 3) hx (hd 2) rfl 1 rfl rfl ?_
  refine r_iconst (pc' := 4) (v := 5) hx (hd 3) (by decide) rfl ?_
  refine r_callV (pc' := 7) (As := [.int p1, .int 5]) (rest := [.ref t]) hx (hd 4) md_X12_cardOf mi_X12_cardOf ms_X12_cardOf ml_12_238 (cX12_cardOf (xl x) w hL t ht p1 5 M) ht rfl (by decide) ⟨Nat.le_of_ble_eq_true rfl, Nat.le_of_ble_eq_true rfl⟩ rfl rfl (Nat.le_of_ble_eq_true rfl) (fun r1 => .int r1 :: [.ref t]) (fun _ => M) (fun _ => ⟨rfl, rfl⟩) rfl (fun r1 _ => ?_)
  refine r_callVU (pc' := 10) (As := [.int r1]) (rest := []) hx (hd 5) md_X12_layIt mi_X12_layIt ms_X12_layIt ml_12_521 (cX12_layIt (xl x) w hL t ht r1 M) ht rfl (by decide) ⟨Nat.le_of_ble_eq_true rfl, Nat.le_of_ble_eq_true rfl⟩ rfl rfl (Nat.le_of_ble_eq_true rfl) rfl (fun M2 => ?_)
  refine r_aload_n (pc' := 11) hx (hd 6) rfl 0 rfl rfl ?_
  refine r_aload_n (pc' := 12) hx (hd 7) rfl 0 rfl rfl ?_
  refine r_iload_n (pc' := 13) hx (hd 8) rfl 1 rfl rfl ?_
  refine r_iconst (pc' := 14) (v := 4) hx (hd 9) (by decide) rfl ?_
  refine r_callV (pc' := 17) (As := [.int p1, .int 4]) (rest := [.ref t]) hx (hd 10) md_X12_cardOf mi_X12_cardOf ms_X12_cardOf ml_12_238 (cX12_cardOf (xl x) w hL t ht p1 4 M2) ht rfl (by decide) ⟨Nat.le_of_ble_eq_true rfl, Nat.le_of_ble_eq_true rfl⟩ rfl rfl (Nat.le_of_ble_eq_true rfl) (fun r3 => .int r3 :: [.ref t]) (fun _ => M2) (fun _ => ⟨rfl, rfl⟩) rfl (fun r3 _ => ?_)
  refine r_callVU (pc' := 20) (As := [.int r3]) (rest := []) hx (hd 11) md_X12_layIt mi_X12_layIt ms_X12_layIt ml_12_521 (cX12_layIt (xl x) w hL t ht r3 M2) ht rfl (by decide) ⟨Nat.le_of_ble_eq_true rfl, Nat.le_of_ble_eq_true rfl⟩ rfl rfl (Nat.le_of_ble_eq_true rfl) rfl (fun M4 => ?_)
  exact r_vret hx (hd 12) rfl rfl hz
abbrev yX12_playLowest : MethodName := ({ cls := "CribbageRoomModel", name := "playLowest", desc := "()V" } : Jvm.MethodName)
def tbX12_playLowest : List (Nat × Instr × Nat) := [(0, .aload_n 0, 1), (1, .getfield 13, 3), (4, .bipush 14, 2), (6, .iaload, 1), (7, .iconst (-1), 1), (8, .if_icmp .eq 35, 3), (11, .iconst 0, 1), (12, .istore_n 1, 1), (13, .aload_n 0, 1), (14, .iload_n 1, 1), (15, .aload_n 0, 1), (16, .getfield 13, 3), (19, .bipush 14, 2), (21, .iaload, 1), (22, .invokevirtual 509, 3), (25, .ifCond .ne 9, 3), (28, .iinc 1 1, 3), (31, .goto (-18), 3), (34, .aload_n 0, 1), (35, .iload_n 1, 1), (36, .invokevirtual 539, 3), (39, .pop, 1), (40, .goto (-40), 3), (43, .return_, 1)]
theorem dX12_playLowest : ∀ q ∈ tbX12_playLowest, decode prog_14_method_135_code q.1 = .ok q.2 := by decide +kernel
set_option maxRecDepth 20000 in
theorem cX12_playLowest (l : Launch) (w : WX) (hL : Lay w) (t : Nat) (ht : Wat w t 12 0) (M : Mem) : Ct l w yX12_playLowest prog_14_method_135_code 2 (Option.none : Option FieldType) 9 215 evU emU [.ref t] M (FX12_playLowest t M) := by
  refine ct_of (by decide) (Nat.le_of_ble_eq_true rfl) (fun x hl hx hb hz => ?_)
  subst hl
  have hd : ∀ i, DAt (xc x).code (tbX12_playLowest[i]?) := fun i => by rw [hb]; exact dat_of dX12_playLowest i
  show C x w (Qn x w evU emU) 2 0 [(0, .ref t)] [] M (FX12_playLowest t M)
  unfold FX12_playLowest
  refine r_wl1 (fun M1 => [(0, .ref t)]) (fun M1 => []) (fun M1 => M1) (fun M1 rec2 ih3 => ?_) fuel M
  refine r_aload_n (pc' := 1) hx (hd 0) rfl 0 rfl rfl ?_
  refine r_get (pc' := 4) (v := .ref (t + 2)) hx (hd 1) fl_12_13 ht rfl (by decide) rfl ?_
  have h4 := hL.1 _ _ _ ht 3 2 20 5594 rfl
  refine r_bipush (pc' := 6) (v := 14) hx (hd 2) (by decide) rfl ?_
  refine r_iald (pc' := 7) (k := 14) hx (hd 3) h4 (by decide) (by decide) rfl ?_
  refine r_iconst (pc' := 8) (v := (-1)) hx (hd 4) (by decide) rfl ?_
  refine r_icmp_eq (tgt := 43) (pc' := 11) hx (hd 5) (by decide) (fun _ => ?_) rfl (fun _ => ?_)
  · skip
    exact r_vret hx (hd 23) rfl rfl hz
  · skip
    refine r_iconst (pc' := 12) (v := 0) hx (hd 6) (by decide) rfl ?_
    refine r_istore_n (pc' := 13) (L' := [(1, .int 0), (0, .ref t)]) hx (hd 7) rfl (by decide) rfl rfl ?_
    refine r_sub [1, 0] rfl ?_
    refine r_wl2 (fun v5 M6 => [(0, .ref t), (1, .int v5)]) (fun v5 M6 => []) (fun v5 M6 => M6) (fun v5 M6 rec7 ih8 => ?_) fuel 0 M1
    refine r_aload_n (pc' := 14) hx (hd 8) rfl 0 rfl rfl ?_
    refine r_iload_n (pc' := 15) hx (hd 9) rfl 1 rfl rfl ?_
    refine r_aload_n (pc' := 16) hx (hd 10) rfl 0 rfl rfl ?_
    refine r_get (pc' := 19) (v := .ref (t + 2)) hx (hd 11) fl_12_13 ht rfl (by decide) rfl ?_
    have h9 := hL.1 _ _ _ ht 3 2 20 5594 rfl
    refine r_bipush (pc' := 21) (v := 14) hx (hd 12) (by decide) rfl ?_
    refine r_iald (pc' := 22) (k := 14) hx (hd 13) h9 (by decide) (by decide) rfl ?_
    refine r_callVI (pc' := 25) (As := [.int v5, .int (mI M6 (t + 2) 14)]) (rest := []) hx (hd 14) md_X12_canPlay mi_X12_canPlay ms_X12_canPlay ml_12_509 (cX12_canPlay (xl x) w hL t ht v5 (mI M6 (t + 2) 14) M6) ht rfl (by decide) ⟨Nat.le_of_ble_eq_true rfl, Nat.le_of_ble_eq_true rfl⟩ rfl rfl (Nat.le_of_ble_eq_true rfl) (fun r11 => .int r11 :: []) (fun _ => rfl) rfl (fun r11 M10 => ?_)
    refine r_if_ne (tgt := 34) (pc' := 28) hx (hd 15) (by decide) (fun _ => ?_) rfl (fun _ => ?_)
    · skip
      refine r_aload_n (pc' := 35) hx (hd 18) rfl 0 rfl rfl ?_
      refine r_iload_n (pc' := 36) hx (hd 19) rfl 1 rfl rfl ?_
      refine r_callVI (pc' := 39) (As := [.int v5]) (rest := []) hx (hd 20) md_X12_playIt mi_X12_playIt ms_X12_playIt ml_12_539 (cX12_playIt (xl x) w hL t ht v5 M10) ht rfl (by decide) ⟨Nat.le_of_ble_eq_true rfl, Nat.le_of_ble_eq_true rfl⟩ rfl rfl (Nat.le_of_ble_eq_true rfl) (fun r13 => .int r13 :: []) (fun _ => rfl) rfl (fun r13 M12 => ?_)
      refine r_pop (pc' := 40) hx (hd 21) rfl rfl ?_
      refine r_goto (tgt := 0) hx (hd 22) (by decide) ?_
      refine r_sub [0] rfl ?_
      exact ih3 M12
    · skip
      refine r_iinc (pc' := 31) (v := 1) hx (hd 16) 1 rfl (by decide) (by decide) (fun v14 => [(1, .int v14), (0, .ref t)]) (fun _ => rfl) rfl (fun v14 => ?_)
      refine r_goto (tgt := 13) hx (hd 17) (by decide) ?_
      refine r_sub [1, 0] rfl ?_
      exact ih8 v14 M10
abbrev yX12_rubbers : MethodName := ({ cls := "CribbageRoomModel", name := "rubbers", desc := "(II)I" } : Jvm.MethodName)
def tbX12_rubbers : List (Nat × Instr × Nat) := [(0, .aload_n 0, 1), (1, .iconst 0, 1), (2, .putfield 188, 3), (5, .iload_n 1, 1), (6, .i2l, 1), (7, .lconst 0, 1), (8, .ldc2_w 299, 3), (11, .invokestatic 208, 3), (14, .ifCond .eq 15, 3), (17, .iload_n 2, 1), (18, .i2l, 1), (19, .lconst 1, 1), (20, .ldc2_w 320, 3), (23, .invokestatic 208, 3), (26, .ifCond .ne 9, 3), (29, .aload_n 0, 1), (30, .iconst (-1), 1), (31, .invokevirtual 197, 3), (34, .ireturn, 1), (35, .aload_n 0, 1), (36, .bipush 16, 2), (38, .invokevirtual 201, 3), (41, .aload_n 0, 1), (42, .iload_n 1, 1), (43, .i2l, 1), (44, .putfield 487, 3), (47, .aload_n 0, 1), (48, .getfield 13, 3), (51, .bipush 16, 2), (53, .iaload, 1), (54, .aload_n 0, 1), (55, .getfield 13, 3), (58, .bipush 17, 2), (60, .iaload, 1), (61, .iadd, 1), (62, .istore_n 3, 1), (63, .iconst 0, 1), (64, .istore 4, 2), (66, .iload 4, 2), (68, .iload_n 2, 1), (69, .if_icmp .ge 59, 3), (72, .aload_n 0, 1), (73, .getfield 13, 3), (76, .bipush 8, 2), (78, .iaload, 1), (79, .sipush 999, 3), (82, .if_icmp .ge 46, 3), (85, .aload_n 0, 1), (86, .invokevirtual 503, 3), (89, .aload_n 0, 1), (90, .iconst 1, 1), (91, .aload_n 0, 1), (92, .getfield 13, 3), (95, .bipush 10, 2), (97, .iaload, 1), (98, .isub, 1), (99, .invokevirtual 639, 3), (102, .aload_n 0, 1), (103, .aload_n 0, 1), (104, .getfield 13, 3), (107, .bipush 10, 2), (109, .iaload, 1), (110, .invokevirtual 639, 3), (113, .aload_n 0, 1), (114, .invokevirtual 642, 3), (117, .aload_n 0, 1), (118, .invokevirtual 548, 3), (121, .pop, 1), (122, .iinc 4 1, 3), (125, .goto (-59), 3), (128, .aload_n 0, 1), (129, .getfield 13, 3), (132, .bipush 16, 2), (134, .iaload, 1), (135, .aload_n 0, 1), (136, .getfield 13, 3), (139, .bipush 17, 2), (141, .iaload, 1), (142, .iadd, 1), (143, .iload_n 3, 1), (144, .isub, 1), (145, .istore 4, 2), (147, .aload_n 0, 1), (148, .getfield 185, 3), (151, .iconst 0, 1), (152, .aload_n 0, 1), (153, .getfield 13, 3), (156, .bipush 16, 2), (158, .iaload, 1), (159, .iastore, 1), (160, .aload_n 0, 1), (161, .getfield 185, 3), (164, .iconst 1, 1), (165, .aload_n 0, 1), (166, .getfield 13, 3), (169, .bipush 17, 2), (171, .iaload, 1), (172, .iastore, 1), (173, .aload_n 0, 1), (174, .iconst 1, 1), (175, .putfield 645, 3), (178, .aload_n 0, 1), (179, .bipush 16, 2), (181, .invokevirtual 205, 3), (184, .aload_n 0, 1), (185, .iload 4, 2), (187, .invokevirtual 197, 3), (190, .ireturn, 1)]
theorem dX12_rubbers : ∀ q ∈ tbX12_rubbers, decode prog_14_method_136_code q.1 = .ok q.2 := by decide +kernel
set_option maxRecDepth 20000 in
theorem cX12_rubbers (l : Launch) (w : WX) (hL : Lay w) (t : Nat) (ht : Wat w t 12 0) (p1 : Int32) (p2 : Int32) (M : Mem) : Ct l w yX12_rubbers prog_14_method_136_code 5 (Option.some FieldType.int) 10 236 evIM emM [.ref t, .int p1, .int p2] M (FX12_rubbers t p1 p2 M) := by
  refine ct_of (by decide) (Nat.le_of_ble_eq_true rfl) (fun x hl hx hb hz => ?_)
  subst hl
  have hd : ∀ i, DAt (xc x).code (tbX12_rubbers[i]?) := fun i => by rw [hb]; exact dat_of dX12_rubbers i
  show C x w (Qn x w evIM emM) 5 0 [(0, .ref t), (1, .int p1), (2, .int p2)] [] M (FX12_rubbers t p1 p2 M)
  unfold FX12_rubbers
  refine r_aload_n (pc' := 1) hx (hd 0) rfl 0 rfl rfl ?_
  refine r_iconst (pc' := 2) (v := 0) hx (hd 1) (by decide) rfl ?_
  refine r_putI (pc' := 5) hx (hd 2) fp_12_188 ht rfl (by decide) rfl (fun M1 => ?_)
  refine r_iload_n (pc' := 6) hx (hd 3) rfl 1 rfl rfl ?_
  refine r_i2l (pc' := 7) hx (hd 4) rfl ?_
  refine r_lconst (pc' := 8) (v := 0) hx (hd 5) (by decide) rfl ?_
  refine r_ldc2 (pc' := 11) hx (hd 6) kc_12_299 rfl ?_
  refine r_callS (pc' := 14) (As := [.long p1.toInt64, .long 0, .long 1000000]) (rest := []) hx (hd 7) md_X12_in mst_X12_in ml_12_208 (cX12_in (xl x) w hL (p1.toInt64) 0 1000000 M1) ⟨Nat.le_of_ble_eq_true rfl, Nat.le_of_ble_eq_true rfl⟩ rfl rfl (Nat.le_of_ble_eq_true rfl) (fun r2 => .int r2 :: []) (fun _ => M1) (fun _ => ⟨rfl, rfl⟩) rfl (fun r2 _ => ?_)
  refine r_jn0 29 ([(0, .ref t)]) ([]) (M1) (?_) (fun j3 hj4 => ?_)
  · skip
    refine r_aload_n (pc' := 30) hx (hd 15) rfl 0 rfl rfl ?_
    refine r_iconst (pc' := 31) (v := (-1)) hx (hd 16) (by decide) rfl ?_
    refine r_callVI (pc' := 34) (As := [.int (-1)]) (rest := []) hx (hd 17) md_X12_tell mi_X12_tell ms_X12_tell ml_12_197 (cX12_tell (xl x) w hL t ht (-1) M1) ht rfl (by decide) ⟨Nat.le_of_ble_eq_true rfl, Nat.le_of_ble_eq_true rfl⟩ rfl rfl (Nat.le_of_ble_eq_true rfl) (fun r6 => .int r6 :: []) (fun _ => rfl) rfl (fun r6 M5 => ?_)
    exact r_iret hx (hd 18) rfl rfl hz
  refine r_if_eq (tgt := 29) (pc' := 17) hx (hd 8) (by decide) (fun _ => ?_) rfl (fun _ => ?_)
  · skip
    refine r_sub [0] rfl ?_
    exact hj4
  · skip
    refine r_iload_n (pc' := 18) hx (hd 9) rfl 2 rfl rfl ?_
    refine r_i2l (pc' := 19) hx (hd 10) rfl ?_
    refine r_lconst (pc' := 20) (v := 1) hx (hd 11) (by decide) rfl ?_
    refine r_ldc2 (pc' := 23) hx (hd 12) kc_12_320 rfl ?_
    refine r_callS (pc' := 26) (As := [.long p2.toInt64, .long 1, .long 20]) (rest := []) hx (hd 13) md_X12_in mst_X12_in ml_12_208 (cX12_in (xl x) w hL (p2.toInt64) 1 20 M1) ⟨Nat.le_of_ble_eq_true rfl, Nat.le_of_ble_eq_true rfl⟩ rfl rfl (Nat.le_of_ble_eq_true rfl) (fun r7 => .int r7 :: []) (fun _ => M1) (fun _ => ⟨rfl, rfl⟩) rfl (fun r7 _ => ?_)
    refine r_if_ne (tgt := 35) (pc' := 29) hx (hd 14) (by decide) (fun _ => ?_) rfl (fun _ => ?_)
    · skip
      refine r_aload_n (pc' := 36) hx (hd 19) rfl 0 rfl rfl ?_
      refine r_bipush (pc' := 38) (v := 16) hx (hd 20) (by decide) rfl ?_
      refine r_callVU (pc' := 41) (As := [.int 16]) (rest := []) hx (hd 21) md_X12_keepAll mi_X12_keepAll ms_X12_keepAll ml_12_201 (cX12_keepAll (xl x) w hL t ht 16 M1) ht rfl (by decide) ⟨Nat.le_of_ble_eq_true rfl, Nat.le_of_ble_eq_true rfl⟩ rfl rfl (Nat.le_of_ble_eq_true rfl) rfl (fun M8 => ?_)
      refine r_aload_n (pc' := 42) hx (hd 22) rfl 0 rfl rfl ?_
      refine r_iload_n (pc' := 43) hx (hd 23) rfl 1 rfl rfl ?_
      refine r_i2l (pc' := 44) hx (hd 24) rfl ?_
      refine r_putJ (pc' := 47) hx (hd 25) fp_12_487 ht rfl (by decide) rfl (fun M9 => ?_)
      refine r_aload_n (pc' := 48) hx (hd 26) rfl 0 rfl rfl ?_
      refine r_get (pc' := 51) (v := .ref (t + 2)) hx (hd 27) fl_12_13 ht rfl (by decide) rfl ?_
      have h10 := hL.1 _ _ _ ht 3 2 20 5594 rfl
      refine r_bipush (pc' := 53) (v := 16) hx (hd 28) (by decide) rfl ?_
      refine r_iald (pc' := 54) (k := 16) hx (hd 29) h10 (by decide) (by decide) rfl ?_
      refine r_aload_n (pc' := 55) hx (hd 30) rfl 0 rfl rfl ?_
      refine r_get (pc' := 58) (v := .ref (t + 2)) hx (hd 31) fl_12_13 ht rfl (by decide) rfl ?_
      have h11 := hL.1 _ _ _ ht 3 2 20 5594 rfl
      refine r_bipush (pc' := 60) (v := 17) hx (hd 32) (by decide) rfl ?_
      refine r_iald (pc' := 61) (k := 17) hx (hd 33) h11 (by decide) (by decide) rfl ?_
      refine r_iadd (pc' := 62) hx (hd 34) rfl ?_
      refine r_nmI (fun v12 => ?_)
      refine r_istore_n (pc' := 63) (L' := [(3, .int v12), (0, .ref t), (1, .int p1), (2, .int p2)]) hx (hd 35) rfl (by decide) rfl rfl ?_
      refine r_iconst (pc' := 64) (v := 0) hx (hd 36) (by decide) rfl ?_
      refine r_istore (pc' := 66) (L' := [(4, .int 0), (3, .int v12), (0, .ref t), (1, .int p1), (2, .int p2)]) hx (hd 37) (by decide) rfl rfl ?_
      refine r_sub [2, 4, 1, 0] rfl ?_
      refine r_wl2 (fun v13 M14 => [(0, .ref t), (2, .int p2), (3, .int v12), (4, .int v13)]) (fun v13 M14 => []) (fun v13 M14 => M14) (fun v13 M14 rec15 ih16 => ?_) fuel 0 M9
      refine r_iload (pc' := 68) hx (hd 38) 3 rfl rfl ?_
      refine r_iload_n (pc' := 69) hx (hd 39) rfl 1 rfl rfl ?_
      refine r_jn0 128 ([(0, .ref t), (3, .int v12)]) ([]) (M14) (?_) (fun j17 hj18 => ?_)
      · skip
        refine r_aload_n (pc' := 129) hx (hd 70) rfl 0 rfl rfl ?_
        refine r_get (pc' := 132) (v := .ref (t + 2)) hx (hd 71) fl_12_13 ht rfl (by decide) rfl ?_
        have h19 := hL.1 _ _ _ ht 3 2 20 5594 rfl
        refine r_bipush (pc' := 134) (v := 16) hx (hd 72) (by decide) rfl ?_
        refine r_iald (pc' := 135) (k := 16) hx (hd 73) h19 (by decide) (by decide) rfl ?_
        refine r_aload_n (pc' := 136) hx (hd 74) rfl 0 rfl rfl ?_
        refine r_get (pc' := 139) (v := .ref (t + 2)) hx (hd 75) fl_12_13 ht rfl (by decide) rfl ?_
        have h20 := hL.1 _ _ _ ht 3 2 20 5594 rfl
        refine r_bipush (pc' := 141) (v := 17) hx (hd 76) (by decide) rfl ?_
        refine r_iald (pc' := 142) (k := 17) hx (hd 77) h20 (by decide) (by decide) rfl ?_
        refine r_iadd (pc' := 143) hx (hd 78) rfl ?_
        refine r_iload_n (pc' := 144) hx (hd 79) rfl 1 rfl rfl ?_
        refine r_isub (pc' := 145) hx (hd 80) rfl ?_
        refine r_nmI (fun v21 => ?_)
        refine r_istore (pc' := 147) (L' := [(4, .int v21), (0, .ref t), (3, .int v12)]) hx (hd 81) (by decide) rfl rfl ?_
        refine r_aload_n (pc' := 148) hx (hd 82) rfl 1 rfl rfl ?_
        refine r_get (pc' := 151) (v := .ref (t + 41)) hx (hd 83) fl_12_185 ht rfl (by decide) rfl ?_
        have h22 := hL.1 _ _ _ ht 66 41 20 2 rfl
        refine r_iconst (pc' := 152) (v := 0) hx (hd 84) (by decide) rfl ?_
        refine r_aload_n (pc' := 153) hx (hd 85) rfl 1 rfl rfl ?_
        refine r_get (pc' := 156) (v := .ref (t + 2)) hx (hd 86) fl_12_13 ht rfl (by decide) rfl ?_
        have h23 := hL.1 _ _ _ ht 3 2 20 5594 rfl
        refine r_bipush (pc' := 158) (v := 16) hx (hd 87) (by decide) rfl ?_
        refine r_iald (pc' := 159) (k := 16) hx (hd 88) h23 (by decide) (by decide) rfl ?_
        refine r_iast (pc' := 160) (k := 0) hx (hd 89) h22 (by decide) (by decide) rfl (fun M24 => ?_)
        refine r_aload_n (pc' := 161) hx (hd 90) rfl 1 rfl rfl ?_
        refine r_get (pc' := 164) (v := .ref (t + 41)) hx (hd 91) fl_12_185 ht rfl (by decide) rfl ?_
        have h25 := hL.1 _ _ _ ht 66 41 20 2 rfl
        refine r_iconst (pc' := 165) (v := 1) hx (hd 92) (by decide) rfl ?_
        refine r_aload_n (pc' := 166) hx (hd 93) rfl 1 rfl rfl ?_
        refine r_get (pc' := 169) (v := .ref (t + 2)) hx (hd 94) fl_12_13 ht rfl (by decide) rfl ?_
        have h26 := hL.1 _ _ _ ht 3 2 20 5594 rfl
        refine r_bipush (pc' := 171) (v := 17) hx (hd 95) (by decide) rfl ?_
        refine r_iald (pc' := 172) (k := 17) hx (hd 96) h26 (by decide) (by decide) rfl ?_
        refine r_iast (pc' := 173) (k := 1) hx (hd 97) h25 (by decide) (by decide) rfl (fun M27 => ?_)
        refine r_aload_n (pc' := 174) hx (hd 98) rfl 1 rfl rfl ?_
        refine r_iconst (pc' := 175) (v := 1) hx (hd 99) (by decide) rfl ?_
        refine r_putZ (pc' := 178) hx (hd 100) fp_12_645 ht rfl (by decide) rfl rfl (fun M28 => ?_)
        refine r_aload_n (pc' := 179) hx (hd 101) rfl 1 rfl rfl ?_
        refine r_bipush (pc' := 181) (v := 16) hx (hd 102) (by decide) rfl ?_
        refine r_callVU (pc' := 184) (As := [.int 16]) (rest := []) hx (hd 103) md_X12_putBack mi_X12_putBack ms_X12_putBack ml_12_205 (cX12_putBack (xl x) w hL t ht 16 M28) ht rfl (by decide) ⟨Nat.le_of_ble_eq_true rfl, Nat.le_of_ble_eq_true rfl⟩ rfl rfl (Nat.le_of_ble_eq_true rfl) rfl (fun M29 => ?_)
        refine r_aload_n (pc' := 185) hx (hd 104) rfl 1 rfl rfl ?_
        refine r_iload (pc' := 187) hx (hd 105) 0 rfl rfl ?_
        refine r_callVI (pc' := 190) (As := [.int v21]) (rest := []) hx (hd 106) md_X12_tell mi_X12_tell ms_X12_tell ml_12_197 (cX12_tell (xl x) w hL t ht v21 M29) ht rfl (by decide) ⟨Nat.le_of_ble_eq_true rfl, Nat.le_of_ble_eq_true rfl⟩ rfl rfl (Nat.le_of_ble_eq_true rfl) (fun r31 => .int r31 :: []) (fun _ => rfl) rfl (fun r31 M30 => ?_)
        exact r_iret hx (hd 107) rfl rfl hz
      refine r_icmp_ge (tgt := 128) (pc' := 72) hx (hd 40) (by decide) (fun _ => ?_) rfl (fun _ => ?_)
      · skip
        refine r_sub [0, 2] rfl ?_
        exact hj18
      · skip
        refine r_aload_n (pc' := 73) hx (hd 41) rfl 0 rfl rfl ?_
        refine r_get (pc' := 76) (v := .ref (t + 2)) hx (hd 42) fl_12_13 ht rfl (by decide) rfl ?_
        have h32 := hL.1 _ _ _ ht 3 2 20 5594 rfl
        refine r_bipush (pc' := 78) (v := 8) hx (hd 43) (by decide) rfl ?_
        refine r_iald (pc' := 79) (k := 8) hx (hd 44) h32 (by decide) (by decide) rfl ?_
        refine r_sipush (pc' := 82) (v := 999) hx (hd 45) (by decide) rfl ?_
        refine r_icmp_ge (tgt := 128) (pc' := 85) hx (hd 46) (by decide) (fun _ => ?_) rfl (fun _ => ?_)
        · skip
          refine r_sub [0, 2] rfl ?_
          exact hj18
        · skip
          refine r_aload_n (pc' := 86) hx (hd 47) rfl 0 rfl rfl ?_
          refine r_callVU (pc' := 89) (As := []) (rest := []) hx (hd 48) md_X12_dealIt mi_X12_dealIt ms_X12_dealIt ml_12_503 (cX12_dealIt (xl x) w hL t ht M14) ht rfl (by decide) ⟨Nat.le_of_ble_eq_true rfl, Nat.le_of_ble_eq_true rfl⟩ rfl rfl (Nat.le_of_ble_eq_true rfl) rfl (fun M33 => ?_)
          refine r_aload_n (pc' := 90) hx (hd 49) rfl 0 rfl rfl ?_
          refine r_iconst (pc' := 91) (v := 1) hx (hd 50) (by decide) rfl ?_
          refine r_aload_n (pc' := 92) hx (hd 51) rfl 0 rfl rfl ?_
          refine r_get (pc' := 95) (v := .ref (t + 2)) hx (hd 52) fl_12_13 ht rfl (by decide) rfl ?_
          have h34 := hL.1 _ _ _ ht 3 2 20 5594 rfl
          refine r_bipush (pc' := 97) (v := 10) hx (hd 53) (by decide) rfl ?_
          refine r_iald (pc' := 98) (k := 10) hx (hd 54) h34 (by decide) (by decide) rfl ?_
          refine r_isub (pc' := 99) hx (hd 55) rfl ?_
          refine r_callVU (pc' := 102) (As := [.int (1 - (mI M33 (t + 2) 10))]) (rest := []) hx (hd 56) md_X12_layHighest mi_X12_layHighest ms_X12_layHighest ml_12_639 (cX12_layHighest (xl x) w hL t ht (1 - (mI M33 (t + 2) 10)) M33) ht rfl (by decide) ⟨Nat.le_of_ble_eq_true rfl, Nat.le_of_ble_eq_true rfl⟩ rfl rfl (Nat.le_of_ble_eq_true rfl) rfl (fun M35 => ?_)
          refine r_aload_n (pc' := 103) hx (hd 57) rfl 0 rfl rfl ?_
          refine r_aload_n (pc' := 104) hx (hd 58) rfl 0 rfl rfl ?_
          refine r_get (pc' := 107) (v := .ref (t + 2)) hx (hd 59) fl_12_13 ht rfl (by decide) rfl ?_
          have h36 := hL.1 _ _ _ ht 3 2 20 5594 rfl
          refine r_bipush (pc' := 109) (v := 10) hx (hd 60) (by decide) rfl ?_
          refine r_iald (pc' := 110) (k := 10) hx (hd 61) h36 (by decide) (by decide) rfl ?_
          refine r_callVU (pc' := 113) (As := [.int (mI M35 (t + 2) 10)]) (rest := []) hx (hd 62) md_X12_layHighest mi_X12_layHighest ms_X12_layHighest ml_12_639 (cX12_layHighest (xl x) w hL t ht (mI M35 (t + 2) 10) M35) ht rfl (by decide) ⟨Nat.le_of_ble_eq_true rfl, Nat.le_of_ble_eq_true rfl⟩ rfl rfl (Nat.le_of_ble_eq_true rfl) rfl (fun M37 => ?_)
          refine r_aload_n (pc' := 114) hx (hd 63) rfl 0 rfl rfl ?_
          refine r_callVU (pc' := 117) (As := []) (rest := []) hx (hd 64) md_X12_playLowest mi_X12_playLowest ms_X12_playLowest ml_12_642 (cX12_playLowest (xl x) w hL t ht M37) ht rfl (by decide) ⟨Nat.le_of_ble_eq_true rfl, Nat.le_of_ble_eq_true rfl⟩ rfl rfl (Nat.le_of_ble_eq_true rfl) rfl (fun M38 => ?_)
          refine r_aload_n (pc' := 118) hx (hd 65) rfl 0 rfl rfl ?_
          refine r_callVI (pc' := 121) (As := []) (rest := []) hx (hd 66) md_X12_showIt mi_X12_showIt ms_X12_showIt ml_12_548 (cX12_showIt (xl x) w hL t ht M38) ht rfl (by decide) ⟨Nat.le_of_ble_eq_true rfl, Nat.le_of_ble_eq_true rfl⟩ rfl rfl (Nat.le_of_ble_eq_true rfl) (fun r40 => .int r40 :: []) (fun _ => rfl) rfl (fun r40 M39 => ?_)
          refine r_pop (pc' := 122) hx (hd 67) rfl rfl ?_
          refine r_iinc (pc' := 125) (v := 1) hx (hd 68) 3 rfl (by decide) (by decide) (fun v41 => [(4, .int v41), (0, .ref t), (2, .int p2), (3, .int v12)]) (fun _ => rfl) rfl (fun v41 => ?_)
          refine r_goto (tgt := 66) hx (hd 69) (by decide) ?_
          refine r_sub [1, 2, 3, 0] rfl ?_
          exact ih16 v41 M39
    · skip
      refine r_sub [0] rfl ?_
      exact hj4
abbrev yX12_drawn : MethodName := ({ cls := "CribbageRoomModel", name := "drawn", desc := "(I)I" } : Jvm.MethodName)
def tbX12_drawn : List (Nat × Instr × Nat) := [(0, .aload_n 0, 1), (1, .iconst 0, 1), (2, .putfield 188, 3), (5, .aload_n 0, 1), (6, .getfield 645, 3), (9, .ifCond .eq 10, 3), (12, .iload_n 1, 1), (13, .invokestatic 227, 3), (16, .ifCond .ne 7, 3), (19, .iconst (-1), 1), (20, .goto 9, 3), (23, .aload_n 0, 1), (24, .getfield 185, 3), (27, .iload_n 1, 1), (28, .iaload, 1), (29, .ireturn, 1)]
theorem dX12_drawn : ∀ q ∈ tbX12_drawn, decode prog_14_method_137_code q.1 = .ok q.2 := by decide +kernel
set_option maxRecDepth 20000 in
theorem cX12_drawn (l : Launch) (w : WX) (hL : Lay w) (t : Nat) (ht : Wat w t 12 0) (p1 : Int32) (M : Mem) : Ct l w yX12_drawn prog_14_method_137_code 2 (Option.some FieldType.int) 2 45 evIM emM [.ref t, .int p1] M (FX12_drawn t p1 M) := by
  refine ct_of (by decide) (Nat.le_of_ble_eq_true rfl) (fun x hl hx hb hz => ?_)
  subst hl
  have hd : ∀ i, DAt (xc x).code (tbX12_drawn[i]?) := fun i => by rw [hb]; exact dat_of dX12_drawn i
  show C x w (Qn x w evIM emM) 2 0 [(0, .ref t), (1, .int p1)] [] M (FX12_drawn t p1 M)
  unfold FX12_drawn
  refine r_aload_n (pc' := 1) hx (hd 0) rfl 0 rfl rfl ?_
  refine r_iconst (pc' := 2) (v := 0) hx (hd 1) (by decide) rfl ?_
  refine r_putI (pc' := 5) hx (hd 2) fp_12_188 ht rfl (by decide) rfl (fun M1 => ?_)
  refine r_aload_n (pc' := 6) hx (hd 3) rfl 0 rfl rfl ?_
  refine r_get (pc' := 9) (v := .int (mI M1 t 67)) hx (hd 4) fl_12_645 ht rfl (by decide) rfl ?_
  refine r_jn1 29 (fun v2 => []) (fun v2 => [.int v2]) (fun v2 => M1) (fun v2 => ?_) (fun j3 hj4 => ?_)
  · skip
    exact r_iret hx (hd 15) rfl rfl hz
  refine r_jn0 19 ([]) ([]) (M1) (?_) (fun j5 hj6 => ?_)
  · skip
    refine r_iconst (pc' := 20) (v := (-1)) hx (hd 9) (by decide) rfl ?_
    refine r_goto (tgt := 29) hx (hd 10) (by decide) ?_
    exact hj4 (-1)
  refine r_if_eq (tgt := 19) (pc' := 12) hx (hd 5) (by decide) (fun _ => ?_) rfl (fun _ => ?_)
  · skip
    refine r_sub [] rfl ?_
    exact hj6
  · skip
    refine r_iload_n (pc' := 13) hx (hd 6) rfl 1 rfl rfl ?_
    refine r_callS (pc' := 16) (As := [.int p1]) (rest := []) hx (hd 7) md_X12_isPlayer mst_X12_isPlayer ml_12_227 (cX12_isPlayer (xl x) w hL p1 M1) ⟨Nat.le_of_ble_eq_true rfl, Nat.le_of_ble_eq_true rfl⟩ rfl rfl (Nat.le_of_ble_eq_true rfl) (fun r7 => .int r7 :: []) (fun _ => M1) (fun _ => ⟨rfl, rfl⟩) rfl (fun r7 _ => ?_)
    refine r_if_ne (tgt := 23) (pc' := 19) hx (hd 8) (by decide) (fun _ => ?_) rfl (fun _ => ?_)
    · skip
      refine r_aload_n (pc' := 24) hx (hd 11) rfl 0 rfl rfl ?_
      refine r_get (pc' := 27) (v := .ref (t + 41)) hx (hd 12) fl_12_185 ht rfl (by decide) rfl ?_
      have h8 := hL.1 _ _ _ ht 66 41 20 2 rfl
      refine r_iload_n (pc' := 28) hx (hd 13) rfl 1 rfl rfl ?_
      refine r_gd (fun h9 => ?_)
      refine r_iald (pc' := 29) (k := ix p1) hx (hd 14) h8 h9 rfl rfl ?_
      refine r_sub [] rfl ?_
      exact hj4 (mI M1 (t + 41) (ix p1))
    · skip
      refine r_sub [] rfl ?_
      exact hj6
abbrev yX12_count : MethodName := ({ cls := "CribbageRoomModel", name := "count", desc := "(I)I" } : Jvm.MethodName)
def tbX12_count : List (Nat × Instr × Nat) := [(0, .aload_n 0, 1), (1, .iconst 0, 1), (2, .putfield 188, 3), (5, .iload_n 1, 1), (6, .tableswitch 236 0 19 #[94, 102, 110, 118, 124, 132, 140, 148, 156, 161, 168, 175, 180, 185, 192, 199, 206, 213, 221, 228], 94), (100, .aload_n 0, 1), (101, .getfield 13, 3), (104, .bipush 9, 2), (106, .iaload, 1), (107, .ireturn, 1), (108, .aload_n 0, 1), (109, .getfield 13, 3), (112, .bipush 10, 2), (114, .iaload, 1), (115, .ireturn, 1), (116, .aload_n 0, 1), (117, .getfield 13, 3), (120, .bipush 11, 2), (122, .iaload, 1), (123, .ireturn, 1), (124, .aload_n 0, 1), (125, .iconst 2, 1), (126, .invokevirtual 232, 3), (129, .ireturn, 1), (130, .aload_n 0, 1), (131, .getfield 13, 3), (134, .bipush 12, 2), (136, .iaload, 1), (137, .ireturn, 1), (138, .aload_n 0, 1), (139, .getfield 13, 3), (142, .bipush 13, 2), (144, .iaload, 1), (145, .ireturn, 1), (146, .aload_n 0, 1), (147, .getfield 13, 3), (150, .bipush 14, 2), (152, .iaload, 1), (153, .ireturn, 1), (154, .aload_n 0, 1), (155, .getfield 13, 3), (158, .bipush 15, 2), (160, .iaload, 1), (161, .ireturn, 1), (162, .aload_n 0, 1), (163, .invokevirtual 554, 3), (166, .ireturn, 1), (167, .aload_n 0, 1), (168, .getfield 13, 3), (171, .iconst 0, 1), (172, .iaload, 1), (173, .ireturn, 1), (174, .aload_n 0, 1), (175, .getfield 13, 3), (178, .iconst 1, 1), (179, .iaload, 1), (180, .ireturn, 1), (181, .aload_n 0, 1), (182, .getfield 194, 3), (185, .ireturn, 1), (186, .aload_n 0, 1), (187, .getfield 255, 3), (190, .ireturn, 1), (191, .aload_n 0, 1), (192, .getfield 7, 3), (195, .iconst 1, 1), (196, .iaload, 1), (197, .ireturn, 1), (198, .aload_n 0, 1), (199, .getfield 7, 3), (202, .iconst 2, 1), (203, .iaload, 1), (204, .ireturn, 1), (205, .aload_n 0, 1), (206, .getfield 7, 3), (209, .iconst 3, 1), (210, .iaload, 1), (211, .ireturn, 1), (212, .aload_n 0, 1), (213, .getfield 7, 3), (216, .iconst 5, 1), (217, .iaload, 1), (218, .ireturn, 1), (219, .aload_n 0, 1), (220, .getfield 7, 3), (223, .bipush 6, 2), (225, .iaload, 1), (226, .ireturn, 1), (227, .aload_n 0, 1), (228, .getfield 13, 3), (231, .iconst 2, 1), (232, .iaload, 1), (233, .ireturn, 1), (234, .aload_n 0, 1), (235, .getfield 13, 3), (238, .bipush 8, 2), (240, .iaload, 1), (241, .ireturn, 1), (242, .iload_n 1, 1), (243, .i2l, 1), (244, .ldc2_w 320, 3), (247, .ldc2_w 648, 3), (250, .invokestatic 208, 3), (253, .ifCond .eq 17, 3), (256, .aload_n 0, 1), (257, .getfield 13, 3), (260, .iconst 4, 1), (261, .iload_n 1, 1), (262, .iadd, 1), (263, .bipush 19, 2), (265, .isub, 1), (266, .iaload, 1), (267, .goto 4, 3), (270, .iconst (-1), 1), (271, .ireturn, 1)]
theorem dX12_count : ∀ q ∈ tbX12_count, decode prog_14_method_138_code q.1 = .ok q.2 := by decide +kernel
set_option maxRecDepth 20000 in
theorem cX12_count (l : Launch) (w : WX) (hL : Lay w) (t : Nat) (ht : Wat w t 12 0) (p1 : Int32) (M : Mem) : Ct l w yX12_count prog_14_method_138_code 2 (Option.some FieldType.int) 1 25 evIM emM [.ref t, .int p1] M (FX12_count t p1 M) := by
  refine ct_of (by decide) (Nat.le_of_ble_eq_true rfl) (fun x hl hx hb hz => ?_)
  subst hl
  have hd : ∀ i, DAt (xc x).code (tbX12_count[i]?) := fun i => by rw [hb]; exact dat_of dX12_count i
  show C x w (Qn x w evIM emM) 2 0 [(0, .ref t), (1, .int p1)] [] M (FX12_count t p1 M)
  unfold FX12_count
  refine r_aload_n (pc' := 1) hx (hd 0) rfl 0 rfl rfl ?_
  refine r_iconst (pc' := 2) (v := 0) hx (hd 1) (by decide) rfl ?_
  refine r_putI (pc' := 5) hx (hd 2) fp_12_188 ht rfl (by decide) rfl (fun M1 => ?_)
  refine r_iload_n (pc' := 6) hx (hd 3) rfl 1 rfl rfl ?_
  refine r_table (td := 242) [100, 108, 116, 124, 130, 138, 146, 154, 162, 167, 174, 181, 186, 191, 198, 205, 212, 219, 227, 234] hx (hd 4) rfl rfl rfl (by decide) ?_ ?_
  · skip
    refine r_iload_n (pc' := 243) hx (hd 98) rfl 1 rfl rfl ?_
    refine r_i2l (pc' := 244) hx (hd 99) rfl ?_
    refine r_ldc2 (pc' := 247) hx (hd 100) kc_12_320 rfl ?_
    refine r_ldc2 (pc' := 250) hx (hd 101) kc_12_648 rfl ?_
    refine r_callS (pc' := 253) (As := [.long p1.toInt64, .long 20, .long 22]) (rest := []) hx (hd 102) md_X12_in mst_X12_in ml_12_208 (cX12_in (xl x) w hL (p1.toInt64) 20 22 M1) ⟨Nat.le_of_ble_eq_true rfl, Nat.le_of_ble_eq_true rfl⟩ rfl rfl (Nat.le_of_ble_eq_true rfl) (fun r2 => .int r2 :: []) (fun _ => M1) (fun _ => ⟨rfl, rfl⟩) rfl (fun r2 _ => ?_)
    refine r_jn1 271 (fun v3 => []) (fun v3 => [.int v3]) (fun v3 => M1) (fun v3 => ?_) (fun j4 hj5 => ?_)
    · skip
      exact r_iret hx (hd 114) rfl rfl hz
    refine r_if_eq (tgt := 270) (pc' := 256) hx (hd 103) (by decide) (fun _ => ?_) rfl (fun _ => ?_)
    · skip
      refine r_iconst (pc' := 271) (v := (-1)) hx (hd 113) (by decide) rfl ?_
      refine r_sub [] rfl ?_
      exact hj5 (-1)
    · skip
      refine r_aload_n (pc' := 257) hx (hd 104) rfl 0 rfl rfl ?_
      refine r_get (pc' := 260) (v := .ref (t + 2)) hx (hd 105) fl_12_13 ht rfl (by decide) rfl ?_
      have h6 := hL.1 _ _ _ ht 3 2 20 5594 rfl
      refine r_iconst (pc' := 261) (v := 4) hx (hd 106) (by decide) rfl ?_
      refine r_iload_n (pc' := 262) hx (hd 107) rfl 1 rfl rfl ?_
      refine r_iadd (pc' := 263) hx (hd 108) rfl ?_
      refine r_bipush (pc' := 265) (v := 19) hx (hd 109) (by decide) rfl ?_
      refine r_isub (pc' := 266) hx (hd 110) rfl ?_
      refine r_gd (fun h7 => ?_)
      refine r_iald (pc' := 267) (k := ix ((4 + p1) - 19)) hx (hd 111) h6 h7 rfl rfl ?_
      refine r_goto (tgt := 271) hx (hd 112) (by decide) ?_
      refine r_sub [] rfl ?_
      exact hj5 (mI M1 (t + 2) (ix ((4 + p1) - 19)))
  refine ⟨?_, ?_, ?_, ?_, ?_, ?_, ?_, ?_, ?_, ?_, ?_, ?_, ?_, ?_, ?_, ?_, ?_, ?_, ?_, ?_,  trivial⟩
  · skip
    refine r_aload_n (pc' := 101) hx (hd 5) rfl 0 rfl rfl ?_
    refine r_get (pc' := 104) (v := .ref (t + 2)) hx (hd 6) fl_12_13 ht rfl (by decide) rfl ?_
    have h8 := hL.1 _ _ _ ht 3 2 20 5594 rfl
    refine r_bipush (pc' := 106) (v := 9) hx (hd 7) (by decide) rfl ?_
    refine r_iald (pc' := 107) (k := 9) hx (hd 8) h8 (by decide) (by decide) rfl ?_
    exact r_iret hx (hd 9) rfl rfl hz
  · skip
    refine r_aload_n (pc' := 109) hx (hd 10) rfl 0 rfl rfl ?_
    refine r_get (pc' := 112) (v := .ref (t + 2)) hx (hd 11) fl_12_13 ht rfl (by decide) rfl ?_
    have h9 := hL.1 _ _ _ ht 3 2 20 5594 rfl
    refine r_bipush (pc' := 114) (v := 10) hx (hd 12) (by decide) rfl ?_
    refine r_iald (pc' := 115) (k := 10) hx (hd 13) h9 (by decide) (by decide) rfl ?_
    exact r_iret hx (hd 14) rfl rfl hz
  · skip
    refine r_aload_n (pc' := 117) hx (hd 15) rfl 0 rfl rfl ?_
    refine r_get (pc' := 120) (v := .ref (t + 2)) hx (hd 16) fl_12_13 ht rfl (by decide) rfl ?_
    have h10 := hL.1 _ _ _ ht 3 2 20 5594 rfl
    refine r_bipush (pc' := 122) (v := 11) hx (hd 17) (by decide) rfl ?_
    refine r_iald (pc' := 123) (k := 11) hx (hd 18) h10 (by decide) (by decide) rfl ?_
    exact r_iret hx (hd 19) rfl rfl hz
  · skip
    refine r_aload_n (pc' := 125) hx (hd 20) rfl 0 rfl rfl ?_
    refine r_iconst (pc' := 126) (v := 2) hx (hd 21) (by decide) rfl ?_
    refine r_callV (pc' := 129) (As := [.int 2]) (rest := []) hx (hd 22) md_X12_cardsAt mi_X12_cardsAt ms_X12_cardsAt ml_12_232 (cX12_cardsAt (xl x) w hL t ht 2 M1) ht rfl (by decide) ⟨Nat.le_of_ble_eq_true rfl, Nat.le_of_ble_eq_true rfl⟩ rfl rfl (Nat.le_of_ble_eq_true rfl) (fun r11 => .int r11 :: []) (fun _ => M1) (fun _ => ⟨rfl, rfl⟩) rfl (fun r11 _ => ?_)
    exact r_iret hx (hd 23) rfl rfl hz
  · skip
    refine r_aload_n (pc' := 131) hx (hd 24) rfl 0 rfl rfl ?_
    refine r_get (pc' := 134) (v := .ref (t + 2)) hx (hd 25) fl_12_13 ht rfl (by decide) rfl ?_
    have h12 := hL.1 _ _ _ ht 3 2 20 5594 rfl
    refine r_bipush (pc' := 136) (v := 12) hx (hd 26) (by decide) rfl ?_
    refine r_iald (pc' := 137) (k := 12) hx (hd 27) h12 (by decide) (by decide) rfl ?_
    exact r_iret hx (hd 28) rfl rfl hz
  · skip
    refine r_aload_n (pc' := 139) hx (hd 29) rfl 0 rfl rfl ?_
    refine r_get (pc' := 142) (v := .ref (t + 2)) hx (hd 30) fl_12_13 ht rfl (by decide) rfl ?_
    have h13 := hL.1 _ _ _ ht 3 2 20 5594 rfl
    refine r_bipush (pc' := 144) (v := 13) hx (hd 31) (by decide) rfl ?_
    refine r_iald (pc' := 145) (k := 13) hx (hd 32) h13 (by decide) (by decide) rfl ?_
    exact r_iret hx (hd 33) rfl rfl hz
  · skip
    refine r_aload_n (pc' := 147) hx (hd 34) rfl 0 rfl rfl ?_
    refine r_get (pc' := 150) (v := .ref (t + 2)) hx (hd 35) fl_12_13 ht rfl (by decide) rfl ?_
    have h14 := hL.1 _ _ _ ht 3 2 20 5594 rfl
    refine r_bipush (pc' := 152) (v := 14) hx (hd 36) (by decide) rfl ?_
    refine r_iald (pc' := 153) (k := 14) hx (hd 37) h14 (by decide) (by decide) rfl ?_
    exact r_iret hx (hd 38) rfl rfl hz
  · skip
    refine r_aload_n (pc' := 155) hx (hd 39) rfl 0 rfl rfl ?_
    refine r_get (pc' := 158) (v := .ref (t + 2)) hx (hd 40) fl_12_13 ht rfl (by decide) rfl ?_
    have h15 := hL.1 _ _ _ ht 3 2 20 5594 rfl
    refine r_bipush (pc' := 160) (v := 15) hx (hd 41) (by decide) rfl ?_
    refine r_iald (pc' := 161) (k := 15) hx (hd 42) h15 (by decide) (by decide) rfl ?_
    exact r_iret hx (hd 43) rfl rfl hz
  · skip
    refine r_aload_n (pc' := 163) hx (hd 44) rfl 0 rfl rfl ?_
    refine r_callV (pc' := 166) (As := []) (rest := []) hx (hd 45) md_X12_heldOnes mi_X12_heldOnes ms_X12_heldOnes ml_12_554 (cX12_heldOnes (xl x) w hL t ht M1) ht rfl (by decide) ⟨Nat.le_of_ble_eq_true rfl, Nat.le_of_ble_eq_true rfl⟩ rfl rfl (Nat.le_of_ble_eq_true rfl) (fun r16 => .int r16 :: []) (fun _ => M1) (fun _ => ⟨rfl, rfl⟩) rfl (fun r16 _ => ?_)
    exact r_iret hx (hd 46) rfl rfl hz
  · skip
    refine r_aload_n (pc' := 168) hx (hd 47) rfl 0 rfl rfl ?_
    refine r_get (pc' := 171) (v := .ref (t + 2)) hx (hd 48) fl_12_13 ht rfl (by decide) rfl ?_
    have h17 := hL.1 _ _ _ ht 3 2 20 5594 rfl
    refine r_iconst (pc' := 172) (v := 0) hx (hd 49) (by decide) rfl ?_
    refine r_iald (pc' := 173) (k := 0) hx (hd 50) h17 (by decide) (by decide) rfl ?_
    exact r_iret hx (hd 51) rfl rfl hz
  · skip
    refine r_aload_n (pc' := 175) hx (hd 52) rfl 0 rfl rfl ?_
    refine r_get (pc' := 178) (v := .ref (t + 2)) hx (hd 53) fl_12_13 ht rfl (by decide) rfl ?_
    have h18 := hL.1 _ _ _ ht 3 2 20 5594 rfl
    refine r_iconst (pc' := 179) (v := 1) hx (hd 54) (by decide) rfl ?_
    refine r_iald (pc' := 180) (k := 1) hx (hd 55) h18 (by decide) (by decide) rfl ?_
    exact r_iret hx (hd 56) rfl rfl hz
  · skip
    refine r_aload_n (pc' := 182) hx (hd 57) rfl 0 rfl rfl ?_
    refine r_get (pc' := 185) (v := .int (mI M1 t 8)) hx (hd 58) fl_12_194 ht rfl (by decide) rfl ?_
    exact r_iret hx (hd 59) rfl rfl hz
  · skip
    refine r_aload_n (pc' := 187) hx (hd 60) rfl 0 rfl rfl ?_
    refine r_get (pc' := 190) (v := .int (mI M1 t 13)) hx (hd 61) fl_12_255 ht rfl (by decide) rfl ?_
    exact r_iret hx (hd 62) rfl rfl hz
  · skip
    refine r_aload_n (pc' := 192) hx (hd 63) rfl 0 rfl rfl ?_
    refine r_get (pc' := 195) (v := .ref (t + 1)) hx (hd 64) fl_12_7 ht rfl (by decide) rfl ?_
    have h19 := hL.1 _ _ _ ht 2 1 20 7 rfl
    refine r_iconst (pc' := 196) (v := 1) hx (hd 65) (by decide) rfl ?_
    refine r_iald (pc' := 197) (k := 1) hx (hd 66) h19 (by decide) (by decide) rfl ?_
    exact r_iret hx (hd 67) rfl rfl hz
  · skip
    refine r_aload_n (pc' := 199) hx (hd 68) rfl 0 rfl rfl ?_
    refine r_get (pc' := 202) (v := .ref (t + 1)) hx (hd 69) fl_12_7 ht rfl (by decide) rfl ?_
    have h20 := hL.1 _ _ _ ht 2 1 20 7 rfl
    refine r_iconst (pc' := 203) (v := 2) hx (hd 70) (by decide) rfl ?_
    refine r_iald (pc' := 204) (k := 2) hx (hd 71) h20 (by decide) (by decide) rfl ?_
    exact r_iret hx (hd 72) rfl rfl hz
  · skip
    refine r_aload_n (pc' := 206) hx (hd 73) rfl 0 rfl rfl ?_
    refine r_get (pc' := 209) (v := .ref (t + 1)) hx (hd 74) fl_12_7 ht rfl (by decide) rfl ?_
    have h21 := hL.1 _ _ _ ht 2 1 20 7 rfl
    refine r_iconst (pc' := 210) (v := 3) hx (hd 75) (by decide) rfl ?_
    refine r_iald (pc' := 211) (k := 3) hx (hd 76) h21 (by decide) (by decide) rfl ?_
    exact r_iret hx (hd 77) rfl rfl hz
  · skip
    refine r_aload_n (pc' := 213) hx (hd 78) rfl 0 rfl rfl ?_
    refine r_get (pc' := 216) (v := .ref (t + 1)) hx (hd 79) fl_12_7 ht rfl (by decide) rfl ?_
    have h22 := hL.1 _ _ _ ht 2 1 20 7 rfl
    refine r_iconst (pc' := 217) (v := 5) hx (hd 80) (by decide) rfl ?_
    refine r_iald (pc' := 218) (k := 5) hx (hd 81) h22 (by decide) (by decide) rfl ?_
    exact r_iret hx (hd 82) rfl rfl hz
  · skip
    refine r_aload_n (pc' := 220) hx (hd 83) rfl 0 rfl rfl ?_
    refine r_get (pc' := 223) (v := .ref (t + 1)) hx (hd 84) fl_12_7 ht rfl (by decide) rfl ?_
    have h23 := hL.1 _ _ _ ht 2 1 20 7 rfl
    refine r_bipush (pc' := 225) (v := 6) hx (hd 85) (by decide) rfl ?_
    refine r_iald (pc' := 226) (k := 6) hx (hd 86) h23 (by decide) (by decide) rfl ?_
    exact r_iret hx (hd 87) rfl rfl hz
  · skip
    refine r_aload_n (pc' := 228) hx (hd 88) rfl 0 rfl rfl ?_
    refine r_get (pc' := 231) (v := .ref (t + 2)) hx (hd 89) fl_12_13 ht rfl (by decide) rfl ?_
    have h24 := hL.1 _ _ _ ht 3 2 20 5594 rfl
    refine r_iconst (pc' := 232) (v := 2) hx (hd 90) (by decide) rfl ?_
    refine r_iald (pc' := 233) (k := 2) hx (hd 91) h24 (by decide) (by decide) rfl ?_
    exact r_iret hx (hd 92) rfl rfl hz
  · skip
    refine r_aload_n (pc' := 235) hx (hd 93) rfl 0 rfl rfl ?_
    refine r_get (pc' := 238) (v := .ref (t + 2)) hx (hd 94) fl_12_13 ht rfl (by decide) rfl ?_
    have h25 := hL.1 _ _ _ ht 3 2 20 5594 rfl
    refine r_bipush (pc' := 240) (v := 8) hx (hd 95) (by decide) rfl ?_
    refine r_iald (pc' := 241) (k := 8) hx (hd 96) h25 (by decide) (by decide) rfl ?_
    exact r_iret hx (hd 97) rfl rfl hz
abbrev yX12_status : MethodName := ({ cls := "CribbageRoomModel", name := "status", desc := "()I" } : Jvm.MethodName)
def tbX12_status : List (Nat × Instr × Nat) := [(0, .aload_n 0, 1), (1, .iconst 0, 1), (2, .putfield 188, 3), (5, .aload_n 0, 1), (6, .getfield 191, 3), (9, .ireturn, 1)]
theorem dX12_status : ∀ q ∈ tbX12_status, decode prog_14_method_139_code q.1 = .ok q.2 := by decide +kernel
set_option maxRecDepth 20000 in
theorem cX12_status (l : Launch) (w : WX) (hL : Lay w) (t : Nat) (ht : Wat w t 12 0) (M : Mem) : Ct l w yX12_status prog_14_method_139_code 1 (Option.some FieldType.int) 0 0 evIM emM [.ref t] M (FX12_status t M) := by
  refine ct_of (by decide) (Nat.le_of_ble_eq_true rfl) (fun x hl hx hb hz => ?_)
  subst hl
  have hd : ∀ i, DAt (xc x).code (tbX12_status[i]?) := fun i => by rw [hb]; exact dat_of dX12_status i
  show C x w (Qn x w evIM emM) 1 0 [(0, .ref t)] [] M (FX12_status t M)
  unfold FX12_status
  refine r_aload_n (pc' := 1) hx (hd 0) rfl 0 rfl rfl ?_
  refine r_iconst (pc' := 2) (v := 0) hx (hd 1) (by decide) rfl ?_
  refine r_putI (pc' := 5) hx (hd 2) fp_12_188 ht rfl (by decide) rfl (fun M1 => ?_)
  refine r_aload_n (pc' := 6) hx (hd 3) rfl 0 rfl rfl ?_
  refine r_get (pc' := 9) (v := .int (mI M1 t 1)) hx (hd 4) fl_12_191 ht rfl (by decide) rfl ?_
  exact r_iret hx (hd 5) rfl rfl hz
