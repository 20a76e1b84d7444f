abbrev yX12_tell : MethodName := ({ cls := "CribbageRoomModel", name := "tell", desc := "(I)I" } : Jvm.MethodName)
def tbX12_tell : List (Nat × Instr × Nat) := [(0, .aload_n 0, 1), (1, .iload_n 1, 1), (2, .ifCond .ge 7, 3), (5, .iload_n 1, 1), (6, .goto 4, 3), (9, .iconst 0, 1), (10, .putfield 191, 3), (13, .iload_n 1, 1), (14, .ifCond .ge 14, 3), (17, .aload_n 0, 1), (18, .getfield 7, 3), (21, .iload_n 1, 1), (22, .ineg, 1), (23, .dup2, 1), (24, .iaload, 1), (25, .iconst 1, 1), (26, .iadd, 1), (27, .iastore, 1), (28, .iload_n 1, 1), (29, .ireturn, 1)]
theorem dX12_tell : ∀ q ∈ tbX12_tell, decode prog_14_method_6_code q.1 = .ok q.2 := by decide +kernel
set_option maxRecDepth 20000 in
theorem cX12_tell (l : Launch) (w : WX) (hL : Lay w) (t : Nat) (ht : Wat w t 12 0) (p1 : Int32) (M : Mem) : Ct l w yX12_tell prog_14_method_6_code 2 (Option.some FieldType.int) 0 0 evIM emM [.ref t, .int p1] M (FX12_tell t p1 M) := by
  refine ct_of (by decide) (Nat.le_of_ble_eq_true rfl) (fun x hl hx hb hz => ?_)
  subst hl
  have hd : ∀ i, DAt (xc x).code (tbX12_tell[i]?) := fun i => by rw [hb]; exact dat_of dX12_tell i
  show C x w (Qn x w evIM emM) 2 0 [(0, .ref t), (1, .int p1)] [] M (FX12_tell t p1 M)
  unfold FX12_tell
  refine r_aload_n (pc' := 1) hx (hd 0) rfl 0 rfl rfl ?_
  refine r_iload_n (pc' := 2) hx (hd 1) rfl 1 rfl rfl ?_
  refine r_jn1 10 (fun v1 => [(0, .ref t), (1, .int p1)]) (fun v1 => [.int v1, .ref t]) (fun v1 => M) (fun v1 => ?_) (fun j2 hj3 => ?_)
  · skip
    refine r_putI (pc' := 13) hx (hd 6) fp_12_191 ht rfl (by decide) rfl (fun M4 => ?_)
    refine r_iload_n (pc' := 14) hx (hd 7) rfl 1 rfl rfl ?_
    refine r_jn1 28 (fun M5 => [(1, .int p1)]) (fun M5 => []) (fun M5 => M5) (fun M5 => ?_) (fun j6 hj7 => ?_)
    · skip
      refine r_iload_n (pc' := 29) hx (hd 18) rfl 0 rfl rfl ?_
      exact r_iret hx (hd 19) rfl rfl hz
    refine r_if_ge (tgt := 28) (pc' := 17) hx (hd 8) (by decide) (fun _ => ?_) rfl (fun _ => ?_)
    · skip
      refine r_sub [1] rfl ?_
      exact hj7 M4
    · skip
      refine r_aload_n (pc' := 18) hx (hd 9) rfl 0 rfl rfl ?_
      refine r_get (pc' := 21) (v := .ref (t + 1)) hx (hd 10) fl_12_7 ht rfl (by decide) rfl ?_
      have h8 := hL.1 _ _ _ ht 2 1 20 7 rfl
      refine r_iload_n (pc' := 22) hx (hd 11) rfl 1 rfl rfl ?_
      refine r_ineg (pc' := 23) hx (hd 12) rfl ?_
      refine r_dup2 (pc' := 24) hx (hd 13) rfl rfl rfl ?_
      refine r_gd (fun h9 => ?_)
      refine r_iald (pc' := 25) (k := ix (-p1)) hx (hd 14) h8 h9 rfl rfl ?_
      refine r_iconst (pc' := 26) (v := 1) hx (hd 15) (by decide) rfl ?_
      refine r_iadd (pc' := 27) hx (hd 16) rfl ?_
      refine r_gd (fun h11 => ?_)
      refine r_iast (pc' := 28) (k := ix (-p1)) hx (hd 17) h8 h11 rfl rfl (fun M10 => ?_)
      refine r_sub [1] rfl ?_
      exact hj7 M10
  refine r_if_ge (tgt := 9) (pc' := 5) hx (hd 2) (by decide) (fun _ => ?_) rfl (fun _ => ?_)
  · skip
    refine r_iconst (pc' := 10) (v := 0) hx (hd 5) (by decide) rfl ?_
    exact hj3 0
  · skip
    refine r_iload_n (pc' := 6) hx (hd 3) rfl 1 rfl rfl ?_
    refine r_goto (tgt := 10) hx (hd 4) (by decide) ?_
    exact hj3 p1
abbrev yX12_putBack : MethodName := ({ cls := "CribbageRoomModel", name := "putBack", desc := "(I)V" } : Jvm.MethodName)
def tbX12_putBack : List (Nat × Instr × Nat) := [(0, .iconst 0, 1), (1, .istore_n 2, 1), (2, .iload_n 2, 1), (3, .bipush 122, 2), (5, .if_icmp .ge 29, 3), (8, .aload_n 0, 1), (9, .getfield 13, 3), (12, .bipush 8, 2), (14, .iload_n 2, 1), (15, .iadd, 1), (16, .aload_n 0, 1), (17, .getfield 23, 3), (20, .bipush 122, 2), (22, .iload_n 1, 1), (23, .imul, 1), (24, .iload_n 2, 1), (25, .iadd, 1), (26, .iaload, 1), (27, .iastore, 1), (28, .iinc 2 1, 3), (31, .goto (-29), 3), (34, .return_, 1)]
theorem dX12_putBack : ∀ q ∈ tbX12_putBack, decode prog_14_method_10_code q.1 = .ok q.2 := by decide +kernel
set_option maxRecDepth 20000 in
theorem cX12_putBack (l : Launch) (w : WX) (hL : Lay w) (t : Nat) (ht : Wat w t 12 0) (p1 : Int32) (M : Mem) : Ct l w yX12_putBack prog_14_method_10_code 3 (Option.none : Option FieldType) 0 0 evU emU [.ref t, .int p1] M (FX12_putBack t p1 M) := by
  refine ct_of (by decide) (Nat.le_of_ble_eq_true rfl) (fun x hl hx hb hz => ?_)
  subst hl
  have hd : ∀ i, DAt (xc x).code (tbX12_putBack[i]?) := fun i => by rw [hb]; exact dat_of dX12_putBack i
  show C x w (Qn x w evU emU) 3 0 [(0, .ref t), (1, .int p1)] [] M (FX12_putBack t p1 M)
  unfold FX12_putBack
  refine r_iconst (pc' := 1) (v := 0) hx (hd 0) (by decide) rfl ?_
  refine r_istore_n (pc' := 2) (L' := [(2, .int 0), (0, .ref t), (1, .int p1)]) hx (hd 1) rfl (by decide) rfl rfl ?_
  refine r_sub [1, 2, 0] rfl ?_
  refine r_wl2 (fun v1 M2 => [(0, .ref t), (1, .int p1), (2, .int v1)]) (fun v1 M2 => []) (fun v1 M2 => M2) (fun v1 M2 rec3 ih4 => ?_) fuel 0 M
  refine r_iload_n (pc' := 3) hx (hd 2) rfl 2 rfl rfl ?_
  refine r_bipush (pc' := 5) (v := 122) hx (hd 3) (by decide) rfl ?_
  refine r_icmp_ge (tgt := 34) (pc' := 8) hx (hd 4) (by decide) (fun _ => ?_) rfl (fun _ => ?_)
  · skip
    exact r_vret hx (hd 21) rfl rfl hz
  · skip
    refine r_aload_n (pc' := 9) hx (hd 5) rfl 0 rfl rfl ?_
    refine r_get (pc' := 12) (v := .ref (t + 2)) hx (hd 6) fl_12_13 ht rfl (by decide) rfl ?_
    have h5 := hL.1 _ _ _ ht 3 2 20 5594 rfl
    refine r_bipush (pc' := 14) (v := 8) hx (hd 7) (by decide) rfl ?_
    refine r_iload_n (pc' := 15) hx (hd 8) rfl 2 rfl rfl ?_
    refine r_iadd (pc' := 16) hx (hd 9) rfl ?_
    refine r_aload_n (pc' := 17) hx (hd 10) rfl 0 rfl rfl ?_
    refine r_get (pc' := 20) (v := .ref (t + 5)) hx (hd 11) fl_12_23 ht rfl (by decide) rfl ?_
    have h6 := hL.1 _ _ _ ht 6 5 20 2196 rfl
    refine r_bipush (pc' := 22) (v := 122) hx (hd 12) (by decide) rfl ?_
    refine r_iload_n (pc' := 23) hx (hd 13) rfl 1 rfl rfl ?_
    refine r_imul (pc' := 24) hx (hd 14) rfl ?_
    refine r_iload_n (pc' := 25) hx (hd 15) rfl 2 rfl rfl ?_
    refine r_iadd (pc' := 26) hx (hd 16) rfl ?_
    refine r_gd (fun h7 => ?_)
    refine r_iald (pc' := 27) (k := ix ((122 * p1) + v1)) hx (hd 17) h6 h7 rfl rfl ?_
    refine r_gd (fun h9 => ?_)
    refine r_iast (pc' := 28) (k := ix (8 + v1)) hx (hd 18) h5 h9 rfl rfl (fun M8 => ?_)
    refine r_iinc (pc' := 31) (v := 1) hx (hd 19) 2 rfl (by decide) (by decide) (fun v10 => [(2, .int v10), (0, .ref t), (1, .int p1)]) (fun _ => rfl) rfl (fun v10 => ?_)
    refine r_goto (tgt := 2) hx (hd 20) (by decide) ?_
    refine r_sub [1, 2, 0] rfl ?_
    exact ih4 v10 M8
abbrev yX12_undo : MethodName := ({ cls := "CribbageRoomModel", name := "undo", desc := "()I" } : Jvm.MethodName)
def tbX12_undo : List (Nat × Instr × Nat) := [(0, .aload_n 0, 1), (1, .iconst 0, 1), (2, .putfield 188, 3), (5, .aload_n 0, 1), (6, .getfield 194, 3), (9, .ifCond .ne 10, 3), (12, .aload_n 0, 1), (13, .bipush (-3), 2), (15, .invokevirtual 197, 3), (18, .ireturn, 1), (19, .aload_n 0, 1), (20, .dup, 1), (21, .getfield 194, 3), (24, .iconst 1, 1), (25, .isub, 1), (26, .putfield 194, 3), (29, .aload_n 0, 1), (30, .aload_n 0, 1), (31, .getfield 194, 3), (34, .invokevirtual 205, 3), (37, .aload_n 0, 1), (38, .aload_n 0, 1), (39, .getfield 26, 3), (42, .aload_n 0, 1), (43, .getfield 194, 3), (46, .iaload, 1), (47, .invokevirtual 197, 3), (50, .ireturn, 1)]
theorem dX12_undo : ∀ q ∈ tbX12_undo, decode prog_14_method_12_code q.1 = .ok q.2 := by decide +kernel
set_option maxRecDepth 20000 in
theorem cX12_undo (l : Launch) (w : WX) (hL : Lay w) (t : Nat) (ht : Wat w t 12 0) (M : Mem) : Ct l w yX12_undo prog_14_method_12_code 1 (Option.some FieldType.int) 1 22 evIM emM [.ref t] M (FX12_undo t M) := by
  refine ct_of (by decide) (Nat.le_of_ble_eq_true rfl) (fun x hl hx hb hz => ?_)
  subst hl
  have hd : ∀ i, DAt (xc x).code (tbX12_undo[i]?) := fun i => by rw [hb]; exact dat_of dX12_undo i
  show C x w (Qn x w evIM emM) 1 0 [(0, .ref t)] [] M (FX12_undo t M)
  unfold FX12_undo
  refine r_aload_n (pc' := 1) hx (hd 0) rfl 0 rfl rfl ?_
  refine r_iconst (pc' := 2) (v := 0) hx (hd 1) (by decide) rfl ?_
  refine r_putI (pc' := 5) hx (hd 2) fp_12_188 ht rfl (by decide) rfl (fun M1 => ?_)
  refine r_aload_n (pc' := 6) hx (hd 3) rfl 0 rfl rfl ?_
  refine r_get (pc' := 9) (v := .int (mI M1 t 8)) hx (hd 4) fl_12_194 ht rfl (by decide) rfl ?_
  refine r_if_ne (tgt := 19) (pc' := 12) hx (hd 5) (by decide) (fun _ => ?_) rfl (fun _ => ?_)
  · skip
    refine r_aload_n (pc' := 20) hx (hd 10) rfl 0 rfl rfl ?_
    refine r_dup (pc' := 21) hx (hd 11) rfl rfl ?_
    refine r_get (pc' := 24) (v := .int (mI M1 t 8)) hx (hd 12) fl_12_194 ht rfl (by decide) rfl ?_
    refine r_iconst (pc' := 25) (v := 1) hx (hd 13) (by decide) rfl ?_
    refine r_isub (pc' := 26) hx (hd 14) rfl ?_
    refine r_putI (pc' := 29) hx (hd 15) fp_12_194 ht rfl (by decide) rfl (fun M2 => ?_)
    refine r_aload_n (pc' := 30) hx (hd 16) rfl 0 rfl rfl ?_
    refine r_aload_n (pc' := 31) hx (hd 17) rfl 0 rfl rfl ?_
    refine r_get (pc' := 34) (v := .int (mI M2 t 8)) hx (hd 18) fl_12_194 ht rfl (by decide) rfl ?_
    refine r_callVU (pc' := 37) (As := [.int (mI M2 t 8)]) (rest := []) hx (hd 19) md_X12_putBack mi_X12_putBack ms_X12_putBack ml_12_205 (cX12_putBack (xl x) w hL t ht (mI M2 t 8) M2) ht rfl (by decide) ⟨Nat.le_of_ble_eq_true rfl, Nat.le_of_ble_eq_true rfl⟩ rfl rfl (Nat.le_of_ble_eq_true rfl) rfl (fun M3 => ?_)
    refine r_aload_n (pc' := 38) hx (hd 20) rfl 0 rfl rfl ?_
    refine r_aload_n (pc' := 39) hx (hd 21) rfl 0 rfl rfl ?_
    refine r_get (pc' := 42) (v := .ref (t + 6)) hx (hd 22) fl_12_26 ht rfl (by decide) rfl ?_
    have h4 := hL.1 _ _ _ ht 7 6 20 16 rfl
    refine r_aload_n (pc' := 43) hx (hd 23) rfl 0 rfl rfl ?_
    refine r_get (pc' := 46) (v := .int (mI M3 t 8)) hx (hd 24) fl_12_194 ht rfl (by decide) rfl ?_
    refine r_gd (fun h5 => ?_)
    refine r_iald (pc' := 47) (k := ix (mI M3 t 8)) hx (hd 25) h4 h5 rfl rfl ?_
    refine r_callVI (pc' := 50) (As := [.int (mI M3 (t + 6) (ix (mI M3 t 8)))]) (rest := []) hx (hd 26) md_X12_tell mi_X12_tell ms_X12_tell ml_12_197 (cX12_tell (xl x) w hL t ht (mI M3 (t + 6) (ix (mI M3 t 8))) M3) ht rfl (by decide) ⟨Nat.le_of_ble_eq_true rfl, Nat.le_of_ble_eq_true rfl⟩ rfl rfl (Nat.le_of_ble_eq_true rfl) (fun r7 => .int r7 :: []) (fun _ => rfl) rfl (fun r7 M6 => ?_)
    exact r_iret hx (hd 27) rfl rfl hz
  · skip
    refine r_aload_n (pc' := 13) hx (hd 6) rfl 0 rfl rfl ?_
    refine r_bipush (pc' := 15) (v := (-3)) hx (hd 7) (by decide) rfl ?_
    refine r_callVI (pc' := 18) (As := [.int (-3)]) (rest := []) hx (hd 8) md_X12_tell mi_X12_tell ms_X12_tell ml_12_197 (cX12_tell (xl x) w hL t ht (-3) M1) ht rfl (by decide) ⟨Nat.le_of_ble_eq_true rfl, Nat.le_of_ble_eq_true rfl⟩ rfl rfl (Nat.le_of_ble_eq_true rfl) (fun r9 => .int r9 :: []) (fun _ => rfl) rfl (fun r9 M8 => ?_)
    exact r_iret hx (hd 9) rfl rfl hz
abbrev yX12_in : MethodName := ({ cls := "CribbageRoomModel", name := "in", desc := "(JJJ)Z" } : Jvm.MethodName)
def tbX12_in : List (Nat × Instr × Nat) := [(0, .lload_n 0, 1), (1, .lload_n 2, 1), (2, .lcmp, 1), (3, .ifCond .lt 14, 3), (6, .lload_n 0, 1), (7, .lload 4, 2), (9, .lcmp, 1), (10, .ifCond .gt 7, 3), (13, .iconst 1, 1), (14, .goto 4, 3), (17, .iconst 0, 1), (18, .ireturn, 1)]
theorem dX12_in : ∀ q ∈ tbX12_in, decode prog_14_method_3_code q.1 = .ok q.2 := by decide +kernel
set_option maxRecDepth 20000 in
theorem cX12_in (l : Launch) (w : WX) (hL : Lay w) (p0 : Int64) (p2 : Int64) (p4 : Int64) (M : Mem) : Ct l w yX12_in prog_14_method_3_code 6 (Option.some FieldType.boolean) 0 0 evI (emC M) [.long p0, .long p2, .long p4] M (FX12_in p0 p2 p4) := by
  refine ct_of (by decide) (Nat.le_of_ble_eq_true rfl) (fun x hl hx hb hz => ?_)
  subst hl
  have hd : ∀ i, DAt (xc x).code (tbX12_in[i]?) := fun i => by rw [hb]; exact dat_of dX12_in i
  show C x w (Qn x w evI (emC M)) 6 0 [(0, .long p0), (2, .long p2), (4, .long p4)] [] M (FX12_in p0 p2 p4)
  unfold FX12_in
  refine r_lload_n (pc' := 1) hx (hd 0) rfl 0 rfl rfl ?_
  refine r_lload_n (pc' := 2) hx (hd 1) rfl 1 rfl rfl ?_
  refine r_jn1 18 (fun v1 => []) (fun v1 => [.int v1]) (fun v1 => M) (fun v1 => ?_) (fun j2 hj3 => ?_)
  · skip
    refine r_gd (fun h4 => ?_)
    exact r_zret hx (hd 11) h4 rfl rfl hz
  refine r_jn0 17 ([]) ([]) (M) (?_) (fun j5 hj6 => ?_)
  · skip
    refine r_iconst (pc' := 18) (v := 0) hx (hd 10) (by decide) rfl ?_
    exact hj3 0
  refine r_lcmp_lt (tgt := 17) (pc' := 6) hx (hd 2) (hd 3) (by decide) (fun _ => ?_) rfl (fun _ => ?_)
  · skip
    refine r_sub [] rfl ?_
    exact hj6
  · skip
    refine r_lload_n (pc' := 7) hx (hd 4) rfl 0 rfl rfl ?_
    refine r_lload (pc' := 9) hx (hd 5) 2 rfl rfl ?_
    refine r_lcmp_gt (tgt := 17) (pc' := 13) hx (hd 6) (hd 7) (by decide) (fun _ => ?_) rfl (fun _ => ?_)
    · skip
      refine r_sub [] rfl ?_
      exact hj6
    · skip
      refine r_iconst (pc' := 14) (v := 1) hx (hd 8) (by decide) rfl ?_
      refine r_goto (tgt := 18) hx (hd 9) (by decide) ?_
      refine r_sub [] rfl ?_
      exact hj3 1
abbrev yX12_image : MethodName := ({ cls := "CribbageRoomModel", name := "image", desc := "(I)I" } : Jvm.MethodName)
def tbX12_image : List (Nat × Instr × Nat) := [(0, .aload_n 0, 1), (1, .iconst 0, 1), (2, .putfield 188, 3), (5, .iload_n 1, 1), (6, .i2l, 1), (7, .lconst 0, 1), (8, .lconst 1, 1), (9, .invokestatic 208, 3), (12, .ifCond .ne 9, 3), (15, .aload_n 0, 1), (16, .iconst (-1), 1), (17, .invokevirtual 197, 3), (20, .ireturn, 1), (21, .iconst 0, 1), (22, .istore_n 2, 1), (23, .iload_n 2, 1), (24, .sipush 5594, 3), (27, .if_icmp .ge 27, 3), (30, .aload_n 0, 1), (31, .getfield 16, 3), (34, .sipush 5594, 3), (37, .iload_n 1, 1), (38, .imul, 1), (39, .iload_n 2, 1), (40, .iadd, 1), (41, .aload_n 0, 1), (42, .getfield 13, 3), (45, .iload_n 2, 1), (46, .iaload, 1), (47, .iastore, 1), (48, .iinc 2 1, 3), (51, .goto (-28), 3), (54, .aload_n 0, 1), (55, .getfield 19, 3), (58, .iload_n 1, 1), (59, .iconst 1, 1), (60, .bastore, 1), (61, .aload_n 0, 1), (62, .iconst 0, 1), (63, .invokevirtual 197, 3), (66, .ireturn, 1)]
theorem dX12_image : ∀ q ∈ tbX12_image, decode prog_14_method_13_code q.1 = .ok q.2 := by decide +kernel
set_option maxRecDepth 20000 in
theorem cX12_image (l : Launch) (w : WX) (hL : Lay w) (t : Nat) (ht : Wat w t 12 0) (p1 : Int32) (M : Mem) : Ct l w yX12_image prog_14_method_13_code 3 (Option.some FieldType.int) 1 25 evIM emM [.ref t, .int p1] M (FX12_image t p1 M) := by
  refine ct_of (by decide) (Nat.le_of_ble_eq_true rfl) (fun x hl hx hb hz => ?_)
  subst hl
  have hd : ∀ i, DAt (xc x).code (tbX12_image[i]?) := fun i => by rw [hb]; exact dat_of dX12_image i
  show C x w (Qn x w evIM emM) 3 0 [(0, .ref t), (1, .int p1)] [] M (FX12_image t p1 M)
  unfold FX12_image
  refine r_aload_n (pc' := 1) hx (hd 0) rfl 0 rfl rfl ?_
  refine r_iconst (pc' := 2) (v := 0) hx (hd 1) (by decide) rfl ?_
  refine r_putI (pc' := 5) hx (hd 2) fp_12_188 ht rfl (by decide) rfl (fun M1 => ?_)
  refine r_iload_n (pc' := 6) hx (hd 3) rfl 1 rfl rfl ?_
  refine r_i2l (pc' := 7) hx (hd 4) rfl ?_
  refine r_lconst (pc' := 8) (v := 0) hx (hd 5) (by decide) rfl ?_
  refine r_lconst (pc' := 9) (v := 1) hx (hd 6) (by decide) rfl ?_
  refine r_callS (pc' := 12) (As := [.long p1.toInt64, .long 0, .long 1]) (rest := []) hx (hd 7) md_X12_in mst_X12_in ml_12_208 (cX12_in (xl x) w hL (p1.toInt64) 0 1 M1) ⟨Nat.le_of_ble_eq_true rfl, Nat.le_of_ble_eq_true rfl⟩ rfl rfl (Nat.le_of_ble_eq_true rfl) (fun r2 => .int r2 :: []) (fun _ => M1) (fun _ => ⟨rfl, rfl⟩) rfl (fun r2 _ => ?_)
  refine r_if_ne (tgt := 21) (pc' := 15) hx (hd 8) (by decide) (fun _ => ?_) rfl (fun _ => ?_)
  · skip
    refine r_iconst (pc' := 22) (v := 0) hx (hd 13) (by decide) rfl ?_
    refine r_istore_n (pc' := 23) (L' := [(2, .int 0), (0, .ref t), (1, .int p1)]) hx (hd 14) rfl (by decide) rfl rfl ?_
    refine r_sub [1, 2, 0] rfl ?_
    refine r_wl2 (fun v3 M4 => [(0, .ref t), (1, .int p1), (2, .int v3)]) (fun v3 M4 => []) (fun v3 M4 => M4) (fun v3 M4 rec5 ih6 => ?_) fuel 0 M1
    refine r_iload_n (pc' := 24) hx (hd 15) rfl 2 rfl rfl ?_
    refine r_sipush (pc' := 27) (v := 5594) hx (hd 16) (by decide) rfl ?_
    refine r_icmp_ge (tgt := 54) (pc' := 30) hx (hd 17) (by decide) (fun _ => ?_) rfl (fun _ => ?_)
    · skip
      refine r_aload_n (pc' := 55) hx (hd 32) rfl 0 rfl rfl ?_
      refine r_get (pc' := 58) (v := .ref (t + 4)) hx (hd 33) fl_12_19 ht rfl (by decide) rfl ?_
      have h7 := hL.1 _ _ _ ht 5 4 22 2 rfl
      refine r_iload_n (pc' := 59) hx (hd 34) rfl 1 rfl rfl ?_
      refine r_iconst (pc' := 60) (v := 1) hx (hd 35) (by decide) rfl ?_
      refine r_gd (fun h9 => ?_)
      refine r_zast (pc' := 61) (k := ix p1) hx (hd 36) h7 h9 rfl rfl rfl (fun M8 => ?_)
      refine r_aload_n (pc' := 62) hx (hd 37) rfl 0 rfl rfl ?_
      refine r_iconst (pc' := 63) (v := 0) hx (hd 38) (by decide) rfl ?_
      refine r_callVI (pc' := 66) (As := [.int 0]) (rest := []) hx (hd 39) md_X12_tell mi_X12_tell ms_X12_tell ml_12_197 (cX12_tell (xl x) w hL t ht 0 M8) ht rfl (by decide) ⟨Nat.le_of_ble_eq_true rfl, Nat.le_of_ble_eq_true rfl⟩ rfl rfl (Nat.le_of_ble_eq_true rfl) (fun r11 => .int r11 :: []) (fun _ => rfl) rfl (fun r11 M10 => ?_)
      exact r_iret hx (hd 40) rfl rfl hz
    · skip
      refine r_aload_n (pc' := 31) hx (hd 18) rfl 0 rfl rfl ?_
      refine r_get (pc' := 34) (v := .ref (t + 3)) hx (hd 19) fl_12_16 ht rfl (by decide) rfl ?_
      have h12 := hL.1 _ _ _ ht 4 3 20 11188 rfl
      refine r_sipush (pc' := 37) (v := 5594) hx (hd 20) (by decide) rfl ?_
      refine r_iload_n (pc' := 38) hx (hd 21) rfl 1 rfl rfl ?_
      refine r_imul (pc' := 39) hx (hd 22) rfl ?_
      refine r_iload_n (pc' := 40) hx (hd 23) rfl 2 rfl rfl ?_
      refine r_iadd (pc' := 41) hx (hd 24) rfl ?_
      refine r_aload_n (pc' := 42) hx (hd 25) rfl 0 rfl rfl ?_
      refine r_get (pc' := 45) (v := .ref (t + 2)) hx (hd 26) fl_12_13 ht rfl (by decide) rfl ?_
      have h13 := hL.1 _ _ _ ht 3 2 20 5594 rfl
      refine r_iload_n (pc' := 46) hx (hd 27) rfl 2 rfl rfl ?_
      refine r_gd (fun h14 => ?_)
      refine r_iald (pc' := 47) (k := ix v3) hx (hd 28) h13 h14 rfl rfl ?_
      refine r_gd (fun h16 => ?_)
      refine r_iast (pc' := 48) (k := ix ((5594 * p1) + v3)) hx (hd 29) h12 h16 rfl rfl (fun M15 => ?_)
      refine r_iinc (pc' := 51) (v := 1) hx (hd 30) 2 rfl (by decide) (by decide) (fun v17 => [(2, .int v17), (0, .ref t), (1, .int p1)]) (fun _ => rfl) rfl (fun v17 => ?_)
      refine r_goto (tgt := 23) hx (hd 31) (by decide) ?_
      refine r_sub [1, 2, 0] rfl ?_
      exact ih6 v17 M15
  · skip
    refine r_aload_n (pc' := 16) hx (hd 9) rfl 0 rfl rfl ?_
    refine r_iconst (pc' := 17) (v := (-1)) hx (hd 10) (by decide) rfl ?_
    refine r_callVI (pc' := 20) (As := [.int (-1)]) (rest := []) hx (hd 11) md_X12_tell mi_X12_tell ms_X12_tell ml_12_197 (cX12_tell (xl x) w hL t ht (-1) M1) ht rfl (by decide) ⟨Nat.le_of_ble_eq_true rfl, Nat.le_of_ble_eq_true rfl⟩ rfl rfl (Nat.le_of_ble_eq_true rfl) (fun r19 => .int r19 :: []) (fun _ => rfl) rfl (fun r19 M18 => ?_)
    exact r_iret hx (hd 12) rfl rfl hz
abbrev yX12_lasting : MethodName := ({ cls := "CribbageRoomModel", name := "lasting", desc := "(I)I" } : Jvm.MethodName)
def tbX12_lasting : List (Nat × Instr × Nat) := [(0, .aload_n 0, 1), (1, .iload_n 1, 1), (2, .ifCond .ge 10, 3), (5, .aload_n 0, 1), (6, .getfield 194, 3), (9, .goto 4, 3), (12, .iconst 0, 1), (13, .putfield 194, 3), (16, .aload_n 0, 1), (17, .iload_n 1, 1), (18, .invokevirtual 197, 3), (21, .ireturn, 1)]
theorem dX12_lasting : ∀ q ∈ tbX12_lasting, decode prog_14_method_8_code q.1 = .ok q.2 := by decide +kernel
set_option maxRecDepth 20000 in
theorem cX12_lasting (l : Launch) (w : WX) (hL : Lay w) (t : Nat) (ht : Wat w t 12 0) (p1 : Int32) (M : Mem) : Ct l w yX12_lasting prog_14_method_8_code 2 (Option.some FieldType.int) 1 21 evIM emM [.ref t, .int p1] M (FX12_lasting t p1 M) := by
  refine ct_of (by decide) (Nat.le_of_ble_eq_true rfl) (fun x hl hx hb hz => ?_)
  subst hl
  have hd : ∀ i, DAt (xc x).code (tbX12_lasting[i]?) := fun i => by rw [hb]; exact dat_of dX12_lasting i
  show C x w (Qn x w evIM emM) 2 0 [(0, .ref t), (1, .int p1)] [] M (FX12_lasting t p1 M)
  unfold FX12_lasting
  refine r_aload_n (pc' := 1) hx (hd 0) rfl 0 rfl rfl ?_
  refine r_iload_n (pc' := 2) hx (hd 1) rfl 1 rfl rfl ?_
  refine r_jn1 13 (fun v1 => [(0, .ref t), (1, .int p1)]) (fun v1 => [.int v1, .ref t]) (fun v1 => M) (fun v1 => ?_) (fun j2 hj3 => ?_)
  · skip
    refine r_putI (pc' := 16) hx (hd 7) fp_12_194 ht rfl (by decide) rfl (fun M4 => ?_)
    refine r_aload_n (pc' := 17) hx (hd 8) rfl 0 rfl rfl ?_
    refine r_iload_n (pc' := 18) hx (hd 9) rfl 1 rfl rfl ?_
    refine r_callVI (pc' := 21) (As := [.int p1]) (rest := []) hx (hd 10) md_X12_tell mi_X12_tell ms_X12_tell ml_12_197 (cX12_tell (xl x) w hL t ht p1 M4) ht rfl (by decide) ⟨Nat.le_of_ble_eq_true rfl, Nat.le_of_ble_eq_true rfl⟩ rfl rfl (Nat.le_of_ble_eq_true rfl) (fun r6 => .int r6 :: []) (fun _ => rfl) rfl (fun r6 M5 => ?_)
    exact r_iret hx (hd 11) rfl rfl hz
  refine r_if_ge (tgt := 12) (pc' := 5) hx (hd 2) (by decide) (fun _ => ?_) rfl (fun _ => ?_)
  · skip
    refine r_iconst (pc' := 13) (v := 0) hx (hd 6) (by decide) rfl ?_
    exact hj3 0
  · skip
    refine r_aload_n (pc' := 6) hx (hd 3) rfl 0 rfl rfl ?_
    refine r_get (pc' := 9) (v := .int (mI M t 8)) hx (hd 4) fl_12_194 ht rfl (by decide) rfl ?_
    refine r_goto (tgt := 13) hx (hd 5) (by decide) ?_
    exact hj3 (mI M t 8)
abbrev yX12_back : MethodName := ({ cls := "CribbageRoomModel", name := "back", desc := "(I)I" } : Jvm.MethodName)
def tbX12_back : List (Nat × Instr × Nat) := [(0, .aload_n 0, 1), (1, .iconst 0, 1), (2, .putfield 188, 3), (5, .iload_n 1, 1), (6, .i2l, 1), (7, .lconst 0, 1), (8, .lconst 1, 1), (9, .invokestatic 208, 3), (12, .ifCond .ne 9, 3), (15, .aload_n 0, 1), (16, .iconst (-1), 1), (17, .invokevirtual 197, 3), (20, .ireturn, 1), (21, .aload_n 0, 1), (22, .getfield 19, 3), (25, .iload_n 1, 1), (26, .baload, 1), (27, .ifCond .ne 10, 3), (30, .aload_n 0, 1), (31, .bipush (-2), 2), (33, .invokevirtual 197, 3), (36, .ireturn, 1), (37, .iconst 0, 1), (38, .istore_n 2, 1), (39, .iload_n 2, 1), (40, .sipush 5594, 3), (43, .if_icmp .ge 27, 3), (46, .aload_n 0, 1), (47, .getfield 13, 3), (50, .iload_n 2, 1), (51, .aload_n 0, 1), (52, .getfield 16, 3), (55, .sipush 5594, 3), (58, .iload_n 1, 1), (59, .imul, 1), (60, .iload_n 2, 1), (61, .iadd, 1), (62, .iaload, 1), (63, .iastore, 1), (64, .iinc 2 1, 3), (67, .goto (-28), 3), (70, .aload_n 0, 1), (71, .iconst 0, 1), (72, .invokevirtual 212, 3), (75, .ireturn, 1)]
theorem dX12_back : ∀ q ∈ tbX12_back, decode prog_14_method_14_code q.1 = .ok q.2 := by decide +kernel
set_option maxRecDepth 20000 in
theorem cX12_back (l : Launch) (w : WX) (hL : Lay w) (t : Nat) (ht : Wat w t 12 0) (p1 : Int32) (M : Mem) : Ct l w yX12_back prog_14_method_14_code 3 (Option.some FieldType.int) 2 42 evIM emM [.ref t, .int p1] M (FX12_back t p1 M) := by
  refine ct_of (by decide) (Nat.le_of_ble_eq_true rfl) (fun x hl hx hb hz => ?_)
  subst hl
  have hd : ∀ i, DAt (xc x).code (tbX12_back[i]?) := fun i => by rw [hb]; exact dat_of dX12_back i
  show C x w (Qn x w evIM emM) 3 0 [(0, .ref t), (1, .int p1)] [] M (FX12_back t p1 M)
  unfold FX12_back
  refine r_aload_n (pc' := 1) hx (hd 0) rfl 0 rfl rfl ?_
  refine r_iconst (pc' := 2) (v := 0) hx (hd 1) (by decide) rfl ?_
  refine r_putI (pc' := 5) hx (hd 2) fp_12_188 ht rfl (by decide) rfl (fun M1 => ?_)
  refine r_iload_n (pc' := 6) hx (hd 3) rfl 1 rfl rfl ?_
  refine r_i2l (pc' := 7) hx (hd 4) rfl ?_
  refine r_lconst (pc' := 8) (v := 0) hx (hd 5) (by decide) rfl ?_
  refine r_lconst (pc' := 9) (v := 1) hx (hd 6) (by decide) rfl ?_
  refine r_callS (pc' := 12) (As := [.long p1.toInt64, .long 0, .long 1]) (rest := []) hx (hd 7) md_X12_in mst_X12_in ml_12_208 (cX12_in (xl x) w hL (p1.toInt64) 0 1 M1) ⟨Nat.le_of_ble_eq_true rfl, Nat.le_of_ble_eq_true rfl⟩ rfl rfl (Nat.le_of_ble_eq_true rfl) (fun r2 => .int r2 :: []) (fun _ => M1) (fun _ => ⟨rfl, rfl⟩) rfl (fun r2 _ => ?_)
  refine r_if_ne (tgt := 21) (pc' := 15) hx (hd 8) (by decide) (fun _ => ?_) rfl (fun _ => ?_)
  · skip
    refine r_aload_n (pc' := 22) hx (hd 13) rfl 0 rfl rfl ?_
    refine r_get (pc' := 25) (v := .ref (t + 4)) hx (hd 14) fl_12_19 ht rfl (by decide) rfl ?_
    have h3 := hL.1 _ _ _ ht 5 4 22 2 rfl
    refine r_iload_n (pc' := 26) hx (hd 15) rfl 1 rfl rfl ?_
    refine r_gd (fun h4 => ?_)
    refine r_zald (pc' := 27) (k := ix p1) hx (hd 16) h3 h4 rfl rfl ?_
    refine r_if_ne (tgt := 37) (pc' := 30) hx (hd 17) (by decide) (fun _ => ?_) rfl (fun _ => ?_)
    · skip
      refine r_iconst (pc' := 38) (v := 0) hx (hd 22) (by decide) rfl ?_
      refine r_istore_n (pc' := 39) (L' := [(2, .int 0), (0, .ref t), (1, .int p1)]) hx (hd 23) rfl (by decide) rfl rfl ?_
      refine r_sub [1, 2, 0] rfl ?_
      refine r_wl2 (fun v5 M6 => [(0, .ref t), (1, .int p1), (2, .int v5)]) (fun v5 M6 => []) (fun v5 M6 => M6) (fun v5 M6 rec7 ih8 => ?_) fuel 0 M1
      refine r_iload_n (pc' := 40) hx (hd 24) rfl 2 rfl rfl ?_
      refine r_sipush (pc' := 43) (v := 5594) hx (hd 25) (by decide) rfl ?_
      refine r_icmp_ge (tgt := 70) (pc' := 46) hx (hd 26) (by decide) (fun _ => ?_) rfl (fun _ => ?_)
      · skip
        refine r_aload_n (pc' := 71) hx (hd 41) rfl 0 rfl rfl ?_
        refine r_iconst (pc' := 72) (v := 0) hx (hd 42) (by decide) rfl ?_
        refine r_callVI (pc' := 75) (As := [.int 0]) (rest := []) hx (hd 43) md_X12_lasting mi_X12_lasting ms_X12_lasting ml_12_212 (cX12_lasting (xl x) w hL t ht 0 M6) ht rfl (by decide) ⟨Nat.le_of_ble_eq_true rfl, Nat.le_of_ble_eq_true rfl⟩ rfl rfl (Nat.le_of_ble_eq_true rfl) (fun r10 => .int r10 :: []) (fun _ => rfl) rfl (fun r10 M9 => ?_)
        exact r_iret hx (hd 44) rfl rfl hz
      · skip
        refine r_aload_n (pc' := 47) hx (hd 27) rfl 0 rfl rfl ?_
        refine r_get (pc' := 50) (v := .ref (t + 2)) hx (hd 28) fl_12_13 ht rfl (by decide) rfl ?_
        have h11 := hL.1 _ _ _ ht 3 2 20 5594 rfl
        refine r_iload_n (pc' := 51) hx (hd 29) rfl 2 rfl rfl ?_
        refine r_aload_n (pc' := 52) hx (hd 30) rfl 0 rfl rfl ?_
        refine r_get (pc' := 55) (v := .ref (t + 3)) hx (hd 31) fl_12_16 ht rfl (by decide) rfl ?_
        have h12 := hL.1 _ _ _ ht 4 3 20 11188 rfl
        refine r_sipush (pc' := 58) (v := 5594) hx (hd 32) (by decide) rfl ?_
        refine r_iload_n (pc' := 59) hx (hd 33) rfl 1 rfl rfl ?_
        refine r_imul (pc' := 60) hx (hd 34) rfl ?_
        refine r_iload_n (pc' := 61) hx (hd 35) rfl 2 rfl rfl ?_
        refine r_iadd (pc' := 62) hx (hd 36) rfl ?_
        refine r_gd (fun h13 => ?_)
        refine r_iald (pc' := 63) (k := ix ((5594 * p1) + v5)) hx (hd 37) h12 h13 rfl rfl ?_
        refine r_gd (fun h15 => ?_)
        refine r_iast (pc' := 64) (k := ix v5) hx (hd 38) h11 h15 rfl rfl (fun M14 => ?_)
        refine r_iinc (pc' := 67) (v := 1) hx (hd 39) 2 rfl (by decide) (by decide) (fun v16 => [(2, .int v16), (0, .ref t), (1, .int p1)]) (fun _ => rfl) rfl (fun v16 => ?_)
        refine r_goto (tgt := 39) hx (hd 40) (by decide) ?_
        refine r_sub [1, 2, 0] rfl ?_
        exact ih8 v16 M14
    · skip
      refine r_aload_n (pc' := 31) hx (hd 18) rfl 0 rfl rfl ?_
      refine r_bipush (pc' := 33) (v := (-2)) hx (hd 19) (by decide) rfl ?_
      refine r_callVI (pc' := 36) (As := [.int (-2)]) (rest := []) hx (hd 20) md_X12_tell mi_X12_tell ms_X12_tell ml_12_197 (cX12_tell (xl x) w hL t ht (-2) M1) ht rfl (by decide) ⟨Nat.le_of_ble_eq_true rfl, Nat.le_of_ble_eq_true rfl⟩ rfl rfl (Nat.le_of_ble_eq_true rfl) (fun r18 => .int r18 :: []) (fun _ => rfl) rfl (fun r18 M17 => ?_)
      exact r_iret hx (hd 21) rfl rfl hz
  · skip
    refine r_aload_n (pc' := 16) hx (hd 9) rfl 0 rfl rfl ?_
    refine r_iconst (pc' := 17) (v := (-1)) hx (hd 10) (by decide) rfl ?_
    refine r_callVI (pc' := 20) (As := [.int (-1)]) (rest := []) hx (hd 11) md_X12_tell mi_X12_tell ms_X12_tell ml_12_197 (cX12_tell (xl x) w hL t ht (-1) M1) ht rfl (by decide) ⟨Nat.le_of_ble_eq_true rfl, Nat.le_of_ble_eq_true rfl⟩ rfl rfl (Nat.le_of_ble_eq_true rfl) (fun r20 => .int r20 :: []) (fun _ => rfl) rfl (fun r20 M19 => ?_)
    exact r_iret hx (hd 12) rfl rfl hz
abbrev yX12_isCard : MethodName := ({ cls := "CribbageRoomModel", name := "isCard", desc := "(I)Z" } : Jvm.MethodName)
def tbX12_isCard : List (Nat × Instr × Nat) := [(0, .iload_n 0, 1), (1, .i2l, 1), (2, .lconst 0, 1), (3, .ldc2_w 215, 3), (6, .invokestatic 208, 3), (9, .ireturn, 1)]
theorem dX12_isCard : ∀ q ∈ tbX12_isCard, decode prog_14_method_15_code q.1 = .ok q.2 := by decide +kernel
set_option maxRecDepth 20000 in
theorem cX12_isCard (l : Launch) (w : WX) (hL : Lay w) (p0 : Int32) (M : Mem) : Ct l w yX12_isCard prog_14_method_15_code 1 (Option.some FieldType.boolean) 1 25 evI (emC M) [.int p0] M (FX12_isCard p0) := by
  refine ct_of (by decide) (Nat.le_of_ble_eq_true rfl) (fun x hl hx hb hz => ?_)
  subst hl
  have hd : ∀ i, DAt (xc x).code (tbX12_isCard[i]?) := fun i => by rw [hb]; exact dat_of dX12_isCard i
  show C x w (Qn x w evI (emC M)) 1 0 [(0, .int p0)] [] M (FX12_isCard p0)
  unfold FX12_isCard
  refine r_iload_n (pc' := 1) hx (hd 0) rfl 0 rfl rfl ?_
  refine r_i2l (pc' := 2) hx (hd 1) rfl ?_
  refine r_lconst (pc' := 3) (v := 0) hx (hd 2) (by decide) rfl ?_
  refine r_ldc2 (pc' := 6) hx (hd 3) kc_12_215 rfl ?_
  refine r_callS (pc' := 9) (As := [.long p0.toInt64, .long 0, .long 51]) (rest := []) hx (hd 4) md_X12_in mst_X12_in ml_12_208 (cX12_in (xl x) w hL (p0.toInt64) 0 51 M) ⟨Nat.le_of_ble_eq_true rfl, Nat.le_of_ble_eq_true rfl⟩ rfl rfl (Nat.le_of_ble_eq_true rfl) (fun r1 => .int r1 :: []) (fun _ => M) (fun _ => ⟨rfl, rfl⟩) rfl (fun r1 _ => ?_)
  refine r_gd (fun h2 => ?_)
  exact r_zret hx (hd 5) h2 rfl rfl hz
abbrev yX12_rankOf : MethodName := ({ cls := "CribbageRoomModel", name := "rankOf", desc := "(I)I" } : Jvm.MethodName)
def tbX12_rankOf : List (Nat × Instr × Nat) := [(0, .iload_n 0, 1), (1, .iconst 4, 1), (2, .idiv, 1), (3, .ireturn, 1)]
theorem dX12_rankOf : ∀ q ∈ tbX12_rankOf, decode prog_14_method_17_code q.1 = .ok q.2 := by decide +kernel
set_option maxRecDepth 20000 in
theorem cX12_rankOf (l : Launch) (w : WX) (hL : Lay w) (p0 : Int32) (M : Mem) : Ct l w yX12_rankOf prog_14_method_17_code 1 (Option.some FieldType.int) 0 0 evI (emC M) [.int p0] M (FX12_rankOf p0) := by
  refine ct_of (by decide) (Nat.le_of_ble_eq_true rfl) (fun x hl hx hb hz => ?_)
  subst hl
  have hd : ∀ i, DAt (xc x).code (tbX12_rankOf[i]?) := fun i => by rw [hb]; exact dat_of dX12_rankOf i
  show C x w (Qn x w evI (emC M)) 1 0 [(0, .int p0)] [] M (FX12_rankOf p0)
  unfold FX12_rankOf
  refine r_iload_n (pc' := 1) hx (hd 0) rfl 0 rfl rfl ?_
  refine r_iconst (pc' := 2) (v := 4) hx (hd 1) (by decide) rfl ?_
  refine r_idiv (pc' := 3) hx (hd 2) (by decide) rfl ?_
  exact r_iret hx (hd 3) rfl rfl hz
abbrev yX12_cardOf : MethodName := ({ cls := "CribbageRoomModel", name := "cardOf", desc := "(II)I" } : Jvm.MethodName)
def tbX12_cardOf : List (Nat × Instr × Nat) := [(0, .iconst (-1), 1), (1, .istore_n 3, 1), (2, .iconst 0, 1), (3, .istore 4, 2), (5, .iconst 0, 1), (6, .istore 5, 2), (8, .iload 5, 2), (10, .bipush 52, 2), (12, .if_icmp .ge 39, 3), (15, .aload_n 0, 1), (16, .getfield 13, 3), (19, .bipush 18, 2), (21, .iload 5, 2), (23, .iadd, 1), (24, .iaload, 1), (25, .iload_n 1, 1), (26, .if_icmp .ne 19, 3), (29, .iload 4, 2), (31, .iload_n 2, 1), (32, .if_icmp .ne 8, 3), (35, .iload 5, 2), (37, .goto 4, 3), (40, .iload_n 3, 1), (41, .istore_n 3, 1), (42, .iinc 4 1, 3), (45, .iinc 5 1, 3), (48, .goto (-40), 3), (51, .iload_n 3, 1), (52, .ireturn, 1)]
theorem dX12_cardOf : ∀ q ∈ tbX12_cardOf, decode prog_14_method_19_code q.1 = .ok q.2 := by decide +kernel
set_option maxRecDepth 20000 in
theorem cX12_cardOf (l : Launch) (w : WX) (hL : Lay w) (t : Nat) (ht : Wat w t 12 0) (p1 : Int32) (p2 : Int32) (M : Mem) : Ct l w yX12_cardOf prog_14_method_19_code 6 (Option.some FieldType.int) 0 0 evI (emC M) [.ref t, .int p1, .int p2] M (FX12_cardOf t p1 p2 M) := by
  refine ct_of (by decide) (Nat.le_of_ble_eq_true rfl) (fun x hl hx hb hz => ?_)
  subst hl
  have hd : ∀ i, DAt (xc x).code (tbX12_cardOf[i]?) := fun i => by rw [hb]; exact dat_of dX12_cardOf i
  show C x w (Qn x w evI (emC M)) 6 0 [(0, .ref t), (1, .int p1), (2, .int p2)] [] M (FX12_cardOf t p1 p2 M)
  unfold FX12_cardOf
  refine r_iconst (pc' := 1) (v := (-1)) hx (hd 0) (by decide) rfl ?_
  refine r_istore_n (pc' := 2) (L' := [(3, .int (-1)), (0, .ref t), (1, .int p1), (2, .int p2)]) hx (hd 1) rfl (by decide) rfl rfl ?_
  refine r_iconst (pc' := 3) (v := 0) hx (hd 2) (by decide) rfl ?_
  refine r_istore (pc' := 5) (L' := [(4, .int 0), (3, .int (-1)), (0, .ref t), (1, .int p1), (2, .int p2)]) hx (hd 3) (by decide) rfl rfl ?_
  refine r_iconst (pc' := 6) (v := 0) hx (hd 4) (by decide) rfl ?_
  refine r_istore (pc' := 8) (L' := [(5, .int 0), (4, .int 0), (3, .int (-1)), (0, .ref t), (1, .int p1), (2, .int p2)]) hx (hd 5) (by decide) rfl rfl ?_
  refine r_sub [3, 4, 5, 2, 1, 0] rfl ?_
  refine r_wl3 (fun v1 v2 v3 => [(0, .ref t), (1, .int p1), (2, .int p2), (3, .int v1), (4, .int v2), (5, .int v3)]) (fun v1 v2 v3 => []) (fun v1 v2 v3 => M) (fun v1 v2 v3 rec4 ih5 => ?_) fuel (-1) 0 0
  refine r_iload (pc' := 10) hx (hd 6) 5 rfl rfl ?_
  refine r_bipush (pc' := 12) (v := 52) hx (hd 7) (by decide) rfl ?_
  refine r_icmp_ge (tgt := 51) (pc' := 15) hx (hd 8) (by decide) (fun _ => ?_) rfl (fun _ => ?_)
  · skip
    refine r_iload_n (pc' := 52) hx (hd 27) rfl 3 rfl rfl ?_
    exact r_iret hx (hd 28) rfl rfl hz
  · skip
    refine r_aload_n (pc' := 16) hx (hd 9) rfl 0 rfl rfl ?_
    refine r_get (pc' := 19) (v := .ref (t + 2)) hx (hd 10) fl_12_13 ht rfl (by decide) rfl ?_
    have h6 := hL.1 _ _ _ ht 3 2 20 5594 rfl
    refine r_bipush (pc' := 21) (v := 18) hx (hd 11) (by decide) rfl ?_
    refine r_iload (pc' := 23) hx (hd 12) 5 rfl rfl ?_
    refine r_iadd (pc' := 24) hx (hd 13) rfl ?_
    refine r_gd (fun h7 => ?_)
    refine r_iald (pc' := 25) (k := ix (18 + v3)) hx (hd 14) h6 h7 rfl rfl ?_
    refine r_iload_n (pc' := 26) hx (hd 15) rfl 1 rfl rfl ?_
    refine r_jn2 45 (fun v8 v9 => [(0, .ref t), (1, .int p1), (2, .int p2), (3, .int v8), (4, .int v9), (5, .int v3)]) (fun v8 v9 => []) (fun v8 v9 => M) (fun v8 v9 => ?_) (fun j10 hj11 => ?_)
    · skip
      refine r_iinc (pc' := 48) (v := 1) hx (hd 25) 5 rfl (by decide) (by decide) (fun v12 => [(5, .int v12), (0, .ref t), (1, .int p1), (2, .int p2), (3, .int v8), (4, .int v9)]) (fun _ => rfl) rfl (fun v12 => ?_)
      refine r_goto (tgt := 8) hx (hd 26) (by decide) ?_
      refine r_sub [1, 2, 3, 4, 5, 0] rfl ?_
      exact ih5 v8 v9 v12
    refine r_icmp_ne (tgt := 45) (pc' := 29) hx (hd 16) (by decide) (fun _ => ?_) rfl (fun _ => ?_)
    · skip
      exact hj11 v1 v2
    · skip
      refine r_iload (pc' := 31) hx (hd 17) 4 rfl rfl ?_
      refine r_iload_n (pc' := 32) hx (hd 18) rfl 2 rfl rfl ?_
      refine r_jn1 41 (fun v13 => [(0, .ref t), (1, .int p1), (2, .int p2), (4, .int v2), (5, .int v3)]) (fun v13 => [.int v13]) (fun v13 => M) (fun v13 => ?_) (fun j14 hj15 => ?_)
      · skip
        refine r_istore_n (pc' := 42) (L' := [(3, .int v13), (0, .ref t), (1, .int p1), (2, .int p2), (4, .int v2), (5, .int v3)]) hx (hd 23) rfl (by decide) rfl rfl ?_
        refine r_iinc (pc' := 45) (v := 1) hx (hd 24) 4 rfl (by decide) (by decide) (fun v16 => [(4, .int v16), (3, .int v13), (0, .ref t), (1, .int p1), (2, .int p2), (5, .int v3)]) (fun _ => rfl) rfl (fun v16 => ?_)
        refine r_sub [2, 3, 4, 1, 0, 5] rfl ?_
        exact hj11 v13 v16
      refine r_icmp_ne (tgt := 40) (pc' := 35) hx (hd 19) (by decide) (fun _ => ?_) rfl (fun _ => ?_)
      · skip
        refine r_iload_n (pc' := 41) hx (hd 22) rfl 3 rfl rfl ?_
        refine r_sub [0, 1, 2, 4, 5] rfl ?_
        exact hj15 v1
      · skip
        refine r_iload (pc' := 37) hx (hd 20) 5 rfl rfl ?_
        refine r_goto (tgt := 41) hx (hd 21) (by decide) ?_
        refine r_sub [0, 1, 2, 4, 5] rfl ?_
        exact hj15 v3
abbrev yX12_reckon : MethodName := ({ cls := "CribbageRoomModel", name := "reckon", desc := "(IJJ)J" } : Jvm.MethodName)
def tbX12_reckon : List (Nat × Instr × Nat) := [(0, .iload_n 1, 1), (1, .tableswitch 148 20 26 #[43, 48, 53, 58, 90, 122, 135], 43), (44, .lload_n 2, 1), (45, .lload 4, 2), (47, .ladd, 1), (48, .lreturn, 1), (49, .lload_n 2, 1), (50, .lload 4, 2), (52, .lsub, 1), (53, .lreturn, 1), (54, .lload_n 2, 1), (55, .lload 4, 2), (57, .lmul, 1), (58, .lreturn, 1), (59, .aload_n 0, 1), (60, .lload 4, 2), (62, .lconst 0, 1), (63, .lcmp, 1), (64, .ifCond .ne 7, 3), (67, .iconst 1, 1), (68, .goto 4, 3), (71, .iconst 0, 1), (72, .putfield 421, 3), (75, .aload_n 0, 1), (76, .getfield 421, 3), (79, .ifCond .eq 7, 3), (82, .lconst 0, 1), (83, .goto 7, 3), (86, .lload_n 2, 1), (87, .lload 4, 2), (89, .ldiv, 1), (90, .lreturn, 1), (91, .aload_n 0, 1), (92, .lload 4, 2), (94, .lconst 0, 1), (95, .lcmp, 1), (96, .ifCond .ne 7, 3), (99, .iconst 1, 1), (100, .goto 4, 3), (103, .iconst 0, 1), (104, .putfield 421, 3), (107, .aload_n 0, 1), (108, .getfield 421, 3), (111, .ifCond .eq 7, 3), (114, .lconst 0, 1), (115, .goto 7, 3), (118, .lload_n 2, 1), (119, .lload 4, 2), (121, .lrem, 1), (122, .lreturn, 1), (123, .lload_n 2, 1), (124, .lload 4, 2), (126, .lcmp, 1), (127, .ifCond .ge 7, 3), (130, .lconst 1, 1), (131, .goto 4, 3), (134, .lconst 0, 1), (135, .lreturn, 1), (136, .lload_n 2, 1), (137, .lload 4, 2), (139, .lcmp, 1), (140, .ifCond .le 7, 3), (143, .lconst 1, 1), (144, .goto 4, 3), (147, .lconst 0, 1), (148, .lreturn, 1), (149, .lload_n 2, 1), (150, .lload 4, 2), (152, .lcmp, 1), (153, .ifCond .ne 7, 3), (156, .lconst 1, 1), (157, .goto 4, 3), (160, .lconst 0, 1), (161, .lreturn, 1)]
theorem dX12_reckon : ∀ q ∈ tbX12_reckon, decode prog_14_method_61_code q.1 = .ok q.2 := by decide +kernel
set_option maxRecDepth 20000 in
theorem cX12_reckon (l : Launch) (w : WX) (hL : Lay w) (t : Nat) (ht : Wat w t 12 0) (p1 : Int32) (p2 : Int64) (p4 : Int64) (M : Mem) : Ct l w yX12_reckon prog_14_method_61_code 6 (Option.some FieldType.long) 0 0 evJM emM [.ref t, .int p1, .long p2, .long p4] M (FX12_reckon t p1 p2 p4 M) := by
  refine ct_of (by decide) (Nat.le_of_ble_eq_true rfl) (fun x hl hx hb hz => ?_)
  subst hl
  have hd : ∀ i, DAt (xc x).code (tbX12_reckon[i]?) := fun i => by rw [hb]; exact dat_of dX12_reckon i
  show C x w (Qn x w evJM emM) 6 0 [(0, .ref t), (1, .int p1), (2, .long p2), (4, .long p4)] [] M (FX12_reckon t p1 p2 p4 M)
  unfold FX12_reckon
  refine r_iload_n (pc' := 1) hx (hd 0) rfl 1 rfl rfl ?_
  refine r_table (td := 149) [44, 49, 54, 59, 91, 123, 136] hx (hd 1) rfl rfl rfl (by decide) ?_ ?_
  · skip
    refine r_lload_n (pc' := 150) hx (hd 66) rfl 2 rfl rfl ?_
    refine r_lload (pc' := 152) hx (hd 67) 3 rfl rfl ?_
    refine r_jn1 161 (fun v1 => []) (fun v1 => [.long v1]) (fun v1 => M) (fun v1 => ?_) (fun j2 hj3 => ?_)
    · skip
      exact r_lret hx (hd 73) rfl rfl hz
    refine r_lcmp_ne (tgt := 160) (pc' := 156) hx (hd 68) (hd 69) (by decide) (fun _ => ?_) rfl (fun _ => ?_)
    · skip
      refine r_lconst (pc' := 161) (v := 0) hx (hd 72) (by decide) rfl ?_
      refine r_sub [] rfl ?_
      exact hj3 0
    · skip
      refine r_lconst (pc' := 157) (v := 1) hx (hd 70) (by decide) rfl ?_
      refine r_goto (tgt := 161) hx (hd 71) (by decide) ?_
      refine r_sub [] rfl ?_
      exact hj3 1
  refine ⟨?_, ?_, ?_, ?_, ?_, ?_, ?_,  trivial⟩
  · skip
    refine r_lload_n (pc' := 45) hx (hd 2) rfl 2 rfl rfl ?_
    refine r_lload (pc' := 47) hx (hd 3) 3 rfl rfl ?_
    refine r_ladd (pc' := 48) hx (hd 4) rfl ?_
    exact r_lret hx (hd 5) rfl rfl hz
  · skip
    refine r_lload_n (pc' := 50) hx (hd 6) rfl 2 rfl rfl ?_
    refine r_lload (pc' := 52) hx (hd 7) 3 rfl rfl ?_
    refine r_lsub (pc' := 53) hx (hd 8) rfl ?_
    exact r_lret hx (hd 9) rfl rfl hz
  · skip
    refine r_lload_n (pc' := 55) hx (hd 10) rfl 2 rfl rfl ?_
    refine r_lload (pc' := 57) hx (hd 11) 3 rfl rfl ?_
    refine r_lmul (pc' := 58) hx (hd 12) rfl ?_
    exact r_lret hx (hd 13) rfl rfl hz
  · skip
    refine r_aload_n (pc' := 60) hx (hd 14) rfl 0 rfl rfl ?_
    refine r_lload (pc' := 62) hx (hd 15) 3 rfl rfl ?_
    refine r_lconst (pc' := 63) (v := 0) hx (hd 16) (by decide) rfl ?_
    refine r_jn1 72 (fun v4 => [(0, .ref t), (2, .long p2), (4, .long p4)]) (fun v4 => [.int v4, .ref t]) (fun v4 => M) (fun v4 => ?_) (fun j5 hj6 => ?_)
    · skip
      refine r_gd (fun h8 => ?_)
      refine r_putZ (pc' := 75) hx (hd 22) fp_12_421 ht rfl (by decide) h8 rfl (fun M7 => ?_)
      refine r_aload_n (pc' := 76) hx (hd 23) rfl 0 rfl rfl ?_
      refine r_get (pc' := 79) (v := .int (mI M7 t 38)) hx (hd 24) fl_12_421 ht rfl (by decide) rfl ?_
      refine r_jn1 90 (fun v9 => []) (fun v9 => [.long v9]) (fun v9 => M7) (fun v9 => ?_) (fun j10 hj11 => ?_)
      · skip
        exact r_lret hx (hd 31) rfl rfl hz
      refine r_if_eq (tgt := 86) (pc' := 82) hx (hd 25) (by decide) (fun _ => ?_) rfl (fun _ => ?_)
      · skip
        refine r_lload_n (pc' := 87) hx (hd 28) rfl 1 rfl rfl ?_
        refine r_lload (pc' := 89) hx (hd 29) 2 rfl rfl ?_
        refine r_gd (fun h12 => ?_)
        refine r_ldiv (pc' := 90) hx (hd 30) (gd_neL h12) rfl ?_
        refine r_sub [] rfl ?_
        exact hj11 (p2 / p4)
      · skip
        refine r_lconst (pc' := 83) (v := 0) hx (hd 26) (by decide) rfl ?_
        refine r_goto (tgt := 90) hx (hd 27) (by decide) ?_
        refine r_sub [] rfl ?_
        exact hj11 0
    refine r_lcmp_ne (tgt := 71) (pc' := 67) hx (hd 17) (hd 18) (by decide) (fun _ => ?_) rfl (fun _ => ?_)
    · skip
      refine r_iconst (pc' := 72) (v := 0) hx (hd 21) (by decide) rfl ?_
      refine r_sub [0, 2, 3] rfl ?_
      exact hj6 0
    · skip
      refine r_iconst (pc' := 68) (v := 1) hx (hd 19) (by decide) rfl ?_
      refine r_goto (tgt := 72) hx (hd 20) (by decide) ?_
      refine r_sub [0, 2, 3] rfl ?_
      exact hj6 1
  · skip
    refine r_aload_n (pc' := 92) hx (hd 32) rfl 0 rfl rfl ?_
    refine r_lload (pc' := 94) hx (hd 33) 3 rfl rfl ?_
    refine r_lconst (pc' := 95) (v := 0) hx (hd 34) (by decide) rfl ?_
    refine r_jn1 104 (fun v13 => [(0, .ref t), (2, .long p2), (4, .long p4)]) (fun v13 => [.int v13, .ref t]) (fun v13 => M) (fun v13 => ?_) (fun j14 hj15 => ?_)
    · skip
      refine r_gd (fun h17 => ?_)
      refine r_putZ (pc' := 107) hx (hd 40) fp_12_421 ht rfl (by decide) h17 rfl (fun M16 => ?_)
      refine r_aload_n (pc' := 108) hx (hd 41) rfl 0 rfl rfl ?_
      refine r_get (pc' := 111) (v := .int (mI M16 t 38)) hx (hd 42) fl_12_421 ht rfl (by decide) rfl ?_
      refine r_jn1 122 (fun v18 => []) (fun v18 => [.long v18]) (fun v18 => M16) (fun v18 => ?_) (fun j19 hj20 => ?_)
      · skip
        exact r_lret hx (hd 49) rfl rfl hz
      refine r_if_eq (tgt := 118) (pc' := 114) hx (hd 43) (by decide) (fun _ => ?_) rfl (fun _ => ?_)
      · skip
        refine r_lload_n (pc' := 119) hx (hd 46) rfl 1 rfl rfl ?_
        refine r_lload (pc' := 121) hx (hd 47) 2 rfl rfl ?_
        refine r_gd (fun h21 => ?_)
        refine r_lrem (pc' := 122) hx (hd 48) (gd_neL h21) rfl ?_
        refine r_sub [] rfl ?_
        exact hj20 (lrm p2 p4)
      · skip
        refine r_lconst (pc' := 115) (v := 0) hx (hd 44) (by decide) rfl ?_
        refine r_goto (tgt := 122) hx (hd 45) (by decide) ?_
        refine r_sub [] rfl ?_
        exact hj20 0
    refine r_lcmp_ne (tgt := 103) (pc' := 99) hx (hd 35) (hd 36) (by decide) (fun _ => ?_) rfl (fun _ => ?_)
    · skip
      refine r_iconst (pc' := 104) (v := 0) hx (hd 39) (by decide) rfl ?_
      refine r_sub [0, 2, 3] rfl ?_
      exact hj15 0
    · skip
      refine r_iconst (pc' := 100) (v := 1) hx (hd 37) (by decide) rfl ?_
      refine r_goto (tgt := 104) hx (hd 38) (by decide) ?_
      refine r_sub [0, 2, 3] rfl ?_
      exact hj15 1
  · skip
    refine r_lload_n (pc' := 124) hx (hd 50) rfl 2 rfl rfl ?_
    refine r_lload (pc' := 126) hx (hd 51) 3 rfl rfl ?_
    refine r_jn1 135 (fun v22 => []) (fun v22 => [.long v22]) (fun v22 => M) (fun v22 => ?_) (fun j23 hj24 => ?_)
    · skip
      exact r_lret hx (hd 57) rfl rfl hz
    refine r_lcmp_ge (tgt := 134) (pc' := 130) hx (hd 52) (hd 53) (by decide) (fun _ => ?_) rfl (fun _ => ?_)
    · skip
      refine r_lconst (pc' := 135) (v := 0) hx (hd 56) (by decide) rfl ?_
      refine r_sub [] rfl ?_
      exact hj24 0
    · skip
      refine r_lconst (pc' := 131) (v := 1) hx (hd 54) (by decide) rfl ?_
      refine r_goto (tgt := 135) hx (hd 55) (by decide) ?_
      refine r_sub [] rfl ?_
      exact hj24 1
  · skip
    refine r_lload_n (pc' := 137) hx (hd 58) rfl 2 rfl rfl ?_
    refine r_lload (pc' := 139) hx (hd 59) 3 rfl rfl ?_
    refine r_jn1 148 (fun v25 => []) (fun v25 => [.long v25]) (fun v25 => M) (fun v25 => ?_) (fun j26 hj27 => ?_)
    · skip
      exact r_lret hx (hd 65) rfl rfl hz
    refine r_lcmp_le (tgt := 147) (pc' := 143) hx (hd 60) (hd 61) (by decide) (fun _ => ?_) rfl (fun _ => ?_)
    · skip
      refine r_lconst (pc' := 148) (v := 0) hx (hd 64) (by decide) rfl ?_
      refine r_sub [] rfl ?_
      exact hj27 0
    · skip
      refine r_lconst (pc' := 144) (v := 1) hx (hd 62) (by decide) rfl ?_
      refine r_goto (tgt := 148) hx (hd 63) (by decide) ?_
      refine r_sub [] rfl ?_
      exact hj27 1
abbrev yX12_reckonAll : MethodName := ({ cls := "CribbageRoomModel", name := "reckonAll", desc := "(II)V" } : Jvm.MethodName)
def tbX12_reckonAll : List (Nat × Instr × Nat) := [(0, .aload_n 0, 1), (1, .iconst 0, 1), (2, .putfield 421, 3), (5, .iconst 0, 1), (6, .istore_n 3, 1), (7, .iload_n 1, 1), (8, .istore 4, 2), (10, .iload 4, 2), (12, .iload_n 2, 1), (13, .if_icmp .ge 329, 3), (16, .aload_n 0, 1), (17, .getfield 421, 3), (20, .ifCond .ne 322, 3), (23, .aload_n 0, 1), (24, .getfield 347, 3), (27, .ifCond .eq 13, 3), (30, .aload_n 0, 1), (31, .getfield 45, 3), (34, .iload 4, 2), (36, .iaload, 1), (37, .goto 20, 3), (40, .aload_n 0, 1), (41, .getfield 13, 3), (44, .aload_n 0, 1), (45, .getfield 424, 3), (48, .bipush 98, 2), (50, .iadd, 1), (51, .iconst 2, 1), (52, .iload 4, 2), (54, .imul, 1), (55, .iadd, 1), (56, .iaload, 1), (57, .istore 5, 2), (59, .aload_n 0, 1), (60, .getfield 347, 3), (63, .ifCond .eq 13, 3), (66, .aload_n 0, 1), (67, .getfield 48, 3), (70, .iload 4, 2), (72, .iaload, 1), (73, .goto 22, 3), (76, .aload_n 0, 1), (77, .getfield 13, 3), (80, .aload_n 0, 1), (81, .getfield 424, 3), (84, .bipush 98, 2), (86, .iadd, 1), (87, .iconst 2, 1), (88, .iload 4, 2), (90, .imul, 1), (91, .iadd, 1), (92, .iconst 1, 1), (93, .iadd, 1), (94, .iaload, 1), (95, .istore 6, 2), (97, .iinc 4 1, 3), (100, .iload 5, 2), (102, .bipush 20, 2), (104, .if_icmp .ge 96, 3), (107, .aload_n 0, 1), (108, .getfield 113, 3), (111, .iload_n 3, 1), (112, .iload 5, 2), (114, .ifCond .ne 9, 3), (117, .iload 6, 2), (119, .i2l, 1), (120, .goto 73, 3), (123, .aload_n 0, 1), (124, .getfield 347, 3), (127, .ifCond .ne 13, 3), (130, .aload_n 0, 1), (131, .getfield 107, 3), (134, .iload 5, 2), (136, .laload, 1), (137, .goto 56, 3), (140, .iload 5, 2), (142, .bipush 6, 2), (144, .if_icmp .ge 13, 3), (147, .aload_n 0, 1), (148, .getfield 110, 3), (151, .iload 5, 2), (153, .laload, 1), (154, .goto 39, 3), (157, .iload 5, 2), (159, .bipush 6, 2), (161, .if_icmp .ne 17, 3), (164, .aload_n 0, 1), (165, .getfield 13, 3), (168, .bipush 16, 2), (170, .iload 6, 2), (172, .iadd, 1), (173, .iaload, 1), (174, .i2l, 1), (175, .goto 18, 3), (178, .aload_n 0, 1), (179, .iload 6, 2), (181, .bipush 6, 2), (183, .idiv, 1), (184, .iload 6, 2), (186, .bipush 6, 2), (188, .irem, 1), (189, .invokevirtual 238, 3), (192, .i2l, 1), (193, .lastore, 1), (194, .iinc 3 1, 3), (197, .goto 142, 3), (200, .iload 5, 2), (202, .bipush 28, 2), (204, .if_icmp .ge 73, 3), (207, .iinc 3 (-1), 3), (210, .aload_n 0, 1), (211, .getfield 113, 3), (214, .iload_n 3, 1), (215, .iconst 1, 1), (216, .isub, 1), (217, .aload_n 0, 1), (218, .iload 5, 2), (220, .aload_n 0, 1), (221, .getfield 113, 3), (224, .iload_n 3, 1), (225, .iconst 1, 1), (226, .isub, 1), (227, .laload, 1), (228, .aload_n 0, 1), (229, .getfield 113, 3), (232, .iload_n 3, 1), (233, .laload, 1), (234, .invokevirtual 427, 3), (237, .lastore, 1), (238, .aload_n 0, 1), (239, .aload_n 0, 1), (240, .getfield 421, 3), (243, .ifCond .ne 23, 3), (246, .aload_n 0, 1), (247, .getfield 113, 3), (250, .iload_n 3, 1), (251, .iconst 1, 1), (252, .isub, 1), (253, .laload, 1), (254, .ldc2_w 431, 3), (257, .ldc2_w 433, 3), (260, .invokestatic 208, 3), (263, .ifCond .ne 7, 3), (266, .iconst 1, 1), (267, .goto 4, 3), (270, .iconst 0, 1), (271, .putfield 421, 3), (274, .goto 65, 3), (277, .iload 5, 2), (279, .bipush 28, 2), (281, .if_icmp .ne 24, 3), (284, .aload_n 0, 1), (285, .getfield 113, 3), (288, .iload_n 3, 1), (289, .iconst 1, 1), (290, .isub, 1), (291, .lconst 1, 1), (292, .aload_n 0, 1), (293, .getfield 113, 3), (296, .iload_n 3, 1), (297, .iconst 1, 1), (298, .isub, 1), (299, .laload, 1), (300, .lsub, 1), (301, .lastore, 1), (302, .goto 37, 3), (305, .aload_n 0, 1), (306, .getfield 113, 3), (309, .iload_n 3, 1), (310, .iconst 1, 1), (311, .isub, 1), (312, .laload, 1), (313, .iload 5, 2), (315, .bipush 29, 2), (317, .if_icmp .ne 7, 3), (320, .lconst 0, 1), (321, .goto 4, 3), (324, .lconst 1, 1), (325, .lcmp, 1), (326, .ifCond .ne 10, 3), (329, .iload 6, 2), (331, .istore 4, 2), (333, .goto 6, 3), (336, .iinc 3 (-1), 3), (339, .goto (-329), 3), (342, .aload_n 0, 1), (343, .iload_n 3, 1), (344, .ifCond .le 12, 3), (347, .aload_n 0, 1), (348, .getfield 113, 3), (351, .iconst 0, 1), (352, .laload, 1), (353, .goto 4, 3), (356, .lconst 0, 1), (357, .putfield 435, 3), (360, .return_, 1)]
theorem dX12_reckonAll : ∀ q ∈ tbX12_reckonAll, decode prog_14_method_62_code q.1 = .ok q.2 := by decide +kernel
set_option maxRecDepth 20000 in
theorem cX12_reckonAll (l : Launch) (w : WX) (hL : Lay w) (t : Nat) (ht : Wat w t 12 0) (p1 : Int32) (p2 : Int32) (M : Mem) : Ct l w yX12_reckonAll prog_14_method_62_code 7 (Option.none : Option FieldType) 1 25 evU emU [.ref t, .int p1, .int p2] M (FX12_reckonAll t p1 p2 M) := by
  refine ct_of (by decide) (Nat.le_of_ble_eq_true rfl) (fun x hl hx hb hz => ?_)
  subst hl
  have hd : ∀ i, DAt (xc x).code (tbX12_reckonAll[i]?) := fun i => by rw [hb]; exact dat_of dX12_reckonAll i
  show C x w (Qn x w evU emU) 7 0 [(0, .ref t), (1, .int p1), (2, .int p2)] [] M (FX12_reckonAll t p1 p2 M)
  unfold FX12_reckonAll
  refine r_aload_n (pc' := 1) hx (hd 0) rfl 0 rfl rfl ?_
  refine r_iconst (pc' := 2) (v := 0) hx (hd 1) (by decide) rfl ?_
  refine r_putZ (pc' := 5) hx (hd 2) fp_12_421 ht rfl (by decide) rfl rfl (fun M1 => ?_)
  refine r_iconst (pc' := 6) (v := 0) hx (hd 3) (by decide) rfl ?_
  refine r_istore_n (pc' := 7) (L' := [(3, .int 0), (0, .ref t), (1, .int p1), (2, .int p2)]) hx (hd 4) rfl (by decide) rfl rfl ?_
  refine r_iload_n (pc' := 8) hx (hd 5) rfl 2 rfl rfl ?_
  refine r_istore (pc' := 10) (L' := [(4, .int p1), (3, .int 0), (0, .ref t), (1, .int p1), (2, .int p2)]) hx (hd 6) (by decide) rfl rfl ?_
  refine r_sub [2, 4, 1, 0] rfl ?_
  refine r_wl3 (fun v2 v3 M4 => [(0, .ref t), (2, .int p2), (3, .int v2), (4, .int v3)]) (fun v2 v3 M4 => []) (fun v2 v3 M4 => M4) (fun v2 v3 M4 rec5 ih6 => ?_) fuel 0 p1 M1
  refine r_iload (pc' := 12) hx (hd 7) 3 rfl rfl ?_
  refine r_iload_n (pc' := 13) hx (hd 8) rfl 1 rfl rfl ?_
  refine r_jn0 342 ([(0, .ref t), (3, .int v2)]) ([]) (M4) (?_) (fun j7 hj8 => ?_)
  · skip
    refine r_aload_n (pc' := 343) hx (hd 185) rfl 0 rfl rfl ?_
    refine r_iload_n (pc' := 344) hx (hd 186) rfl 1 rfl rfl ?_
    refine r_jn1 357 (fun v9 => []) (fun v9 => [.long v9, .ref t]) (fun v9 => M4) (fun v9 => ?_) (fun j10 hj11 => ?_)
    · skip
      refine r_putJ (pc' := 360) hx (hd 194) fp_12_435 ht rfl (by decide) rfl (fun M12 => ?_)
      exact r_vret hx (hd 195) rfl rfl hz
    refine r_if_le (tgt := 356) (pc' := 347) hx (hd 187) (by decide) (fun _ => ?_) rfl (fun _ => ?_)
    · skip
      refine r_lconst (pc' := 357) (v := 0) hx (hd 193) (by decide) rfl ?_
      refine r_sub [] rfl ?_
      exact hj11 0
    · skip
      refine r_aload_n (pc' := 348) hx (hd 188) rfl 0 rfl rfl ?_
      refine r_get (pc' := 351) (v := .ref (t + 20)) hx (hd 189) fl_12_113 ht rfl (by decide) rfl ?_
      have h13 := hL.1 _ _ _ ht 37 20 21 400 rfl
      refine r_iconst (pc' := 352) (v := 0) hx (hd 190) (by decide) rfl ?_
      refine r_lald (pc' := 353) (k := 0) hx (hd 191) h13 (by decide) (by decide) rfl ?_
      refine r_goto (tgt := 357) hx (hd 192) (by decide) ?_
      refine r_sub [] rfl ?_
      exact hj11 (mJ M4 (t + 20) 0)
  refine r_icmp_ge (tgt := 342) (pc' := 16) hx (hd 9) (by decide) (fun _ => ?_) rfl (fun _ => ?_)
  · skip
    refine r_sub [0, 2] rfl ?_
    exact hj8
  · skip
    refine r_aload_n (pc' := 17) hx (hd 10) rfl 0 rfl rfl ?_
    refine r_get (pc' := 20) (v := .int (mI M4 t 38)) hx (hd 11) fl_12_421 ht rfl (by decide) rfl ?_
    refine r_if_ne (tgt := 342) (pc' := 23) hx (hd 12) (by decide) (fun _ => ?_) rfl (fun _ => ?_)
    · skip
      refine r_sub [0, 2] rfl ?_
      exact hj8
    · skip
      refine r_aload_n (pc' := 24) hx (hd 13) rfl 0 rfl rfl ?_
      refine r_get (pc' := 27) (v := .int (mI M4 t 20)) hx (hd 14) fl_12_347 ht rfl (by decide) rfl ?_
      refine r_jn1 57 (fun v14 => [(0, .ref t), (2, .int p2), (3, .int v2), (4, .int v3)]) (fun v14 => [.int v14]) (fun v14 => M4) (fun v14 => ?_) (fun j15 hj16 => ?_)
      · skip
        refine r_istore (pc' := 59) (L' := [(5, .int v14), (0, .ref t), (2, .int p2), (3, .int v2), (4, .int v3)]) hx (hd 32) (by decide) rfl rfl ?_
        refine r_aload_n (pc' := 60) hx (hd 33) rfl 1 rfl rfl ?_
        refine r_get (pc' := 63) (v := .int (mI M4 t 20)) hx (hd 34) fl_12_347 ht rfl (by decide) rfl ?_
        refine r_jn1 95 (fun v17 => [(0, .ref t), (2, .int p2), (3, .int v2), (4, .int v3), (5, .int v14)]) (fun v17 => [.int v17]) (fun v17 => M4) (fun v17 => ?_) (fun j18 hj19 => ?_)
        · skip
          refine r_istore (pc' := 97) (L' := [(6, .int v17), (0, .ref t), (2, .int p2), (3, .int v2), (4, .int v3), (5, .int v14)]) hx (hd 54) (by decide) rfl rfl ?_
          refine r_iinc (pc' := 100) (v := 1) hx (hd 55) 4 rfl (by decide) (by decide) (fun v20 => [(4, .int v20), (6, .int v17), (0, .ref t), (2, .int p2), (3, .int v2), (5, .int v14)]) (fun _ => rfl) rfl (fun v20 => ?_)
          refine r_iload (pc' := 102) hx (hd 56) 5 rfl rfl ?_
          refine r_bipush (pc' := 104) (v := 20) hx (hd 57) (by decide) rfl ?_
          refine r_jn3 339 (fun v21 v22 M23 => [(0, .ref t), (2, .int p2), (3, .int v21), (4, .int v22)]) (fun v21 v22 M23 => []) (fun v21 v22 M23 => M23) (fun v21 v22 M23 => ?_) (fun j24 hj25 => ?_)
          · skip
            refine r_goto (tgt := 10) hx (hd 184) (by decide) ?_
            exact ih6 v21 v22 M23
          refine r_icmp_ge (tgt := 200) (pc' := 107) hx (hd 58) (by decide) (fun _ => ?_) rfl (fun _ => ?_)
          · skip
            refine r_iload (pc' := 202) hx (hd 106) 5 rfl rfl ?_
            refine r_bipush (pc' := 204) (v := 28) hx (hd 107) (by decide) rfl ?_
            refine r_icmp_ge (tgt := 277) (pc' := 207) hx (hd 108) (by decide) (fun _ => ?_) rfl (fun _ => ?_)
            · skip
              refine r_iload (pc' := 279) hx (hd 148) 5 rfl rfl ?_
              refine r_bipush (pc' := 281) (v := 28) hx (hd 149) (by decide) rfl ?_
              refine r_icmp_ne (tgt := 305) (pc' := 284) hx (hd 150) (by decide) (fun _ => ?_) rfl (fun _ => ?_)
              · skip
                refine r_aload_n (pc' := 306) hx (hd 166) rfl 2 rfl rfl ?_
                refine r_get (pc' := 309) (v := .ref (t + 20)) hx (hd 167) fl_12_113 ht rfl (by decide) rfl ?_
                have h26 := hL.1 _ _ _ ht 37 20 21 400 rfl
                refine r_iload_n (pc' := 310) hx (hd 168) rfl 4 rfl rfl ?_
                refine r_iconst (pc' := 311) (v := 1) hx (hd 169) (by decide) rfl ?_
                refine r_isub (pc' := 312) hx (hd 170) rfl ?_
                refine r_gd (fun h27 => ?_)
                refine r_lald (pc' := 313) (k := ix (v2 - 1)) hx (hd 171) h26 h27 rfl rfl ?_
                refine r_iload (pc' := 315) hx (hd 172) 5 rfl rfl ?_
                refine r_bipush (pc' := 317) (v := 29) hx (hd 173) (by decide) rfl ?_
                refine r_jn1 325 (fun v28 => [(0, .ref t), (2, .int p2), (3, .int v2), (4, .int v20), (6, .int v17)]) (fun v28 => [.long v28, .long (mJ M4 (t + 20) (ix (v2 - 1)))]) (fun v28 => M4) (fun v28 => ?_) (fun j29 hj30 => ?_)
                · skip
                  refine r_lcmp_ne (tgt := 336) (pc' := 329) hx (hd 178) (hd 179) (by decide) (fun _ => ?_) rfl (fun _ => ?_)
                  · skip
                    refine r_iinc (pc' := 339) (v := (-1)) hx (hd 183) 2 rfl (by decide) (by decide) (fun v31 => [(3, .int v31), (0, .ref t), (2, .int p2), (4, .int v20), (6, .int v17)]) (fun _ => rfl) rfl (fun v31 => ?_)
                    refine r_sub [1, 2, 0, 3] rfl ?_
                    exact hj25 v31 v20 M4
                  · skip
                    refine r_iload (pc' := 331) hx (hd 180) 4 rfl rfl ?_
                    refine r_istore (pc' := 333) (L' := [(4, .int v17), (0, .ref t), (2, .int p2), (3, .int v2), (6, .int v17)]) hx (hd 181) (by decide) rfl rfl ?_
                    refine r_goto (tgt := 339) hx (hd 182) (by decide) ?_
                    refine r_sub [1, 2, 3, 0] rfl ?_
                    exact hj25 v2 v17 M4
                refine r_icmp_ne (tgt := 324) (pc' := 320) hx (hd 174) (by decide) (fun _ => ?_) rfl (fun _ => ?_)
                · skip
                  refine r_lconst (pc' := 325) (v := 1) hx (hd 177) (by decide) rfl ?_
                  refine r_sub [2, 3, 4, 0, 1] rfl ?_
                  exact hj30 1
                · skip
                  refine r_lconst (pc' := 321) (v := 0) hx (hd 175) (by decide) rfl ?_
                  refine r_goto (tgt := 325) hx (hd 176) (by decide) ?_
                  refine r_sub [2, 3, 4, 0, 1] rfl ?_
                  exact hj30 0
              · skip
                refine r_aload_n (pc' := 285) hx (hd 151) rfl 2 rfl rfl ?_
                refine r_get (pc' := 288) (v := .ref (t + 20)) hx (hd 152) fl_12_113 ht rfl (by decide) rfl ?_
                have h32 := hL.1 _ _ _ ht 37 20 21 400 rfl
                refine r_iload_n (pc' := 289) hx (hd 153) rfl 4 rfl rfl ?_
                refine r_iconst (pc' := 290) (v := 1) hx (hd 154) (by decide) rfl ?_
                refine r_isub (pc' := 291) hx (hd 155) rfl ?_
                refine r_lconst (pc' := 292) (v := 1) hx (hd 156) (by decide) rfl ?_
                refine r_aload_n (pc' := 293) hx (hd 157) rfl 2 rfl rfl ?_
                refine r_get (pc' := 296) (v := .ref (t + 20)) hx (hd 158) fl_12_113 ht rfl (by decide) rfl ?_
                have h33 := hL.1 _ _ _ ht 37 20 21 400 rfl
                refine r_iload_n (pc' := 297) hx (hd 159) rfl 4 rfl rfl ?_
                refine r_iconst (pc' := 298) (v := 1) hx (hd 160) (by decide) rfl ?_
                refine r_isub (pc' := 299) hx (hd 161) rfl ?_
                refine r_gd (fun h34 => ?_)
                refine r_lald (pc' := 300) (k := ix (v2 - 1)) hx (hd 162) h33 h34 rfl rfl ?_
                refine r_lsub (pc' := 301) hx (hd 163) rfl ?_
                refine r_gd (fun h36 => ?_)
                refine r_last (pc' := 302) (k := ix (v2 - 1)) hx (hd 164) h32 h36 rfl rfl (fun M35 => ?_)
                refine r_goto (tgt := 339) hx (hd 165) (by decide) ?_
                refine r_sub [2, 3, 4, 0] rfl ?_
                exact hj25 v2 v20 M35
            · skip
              refine r_iinc (pc' := 210) (v := (-1)) hx (hd 109) 4 rfl (by decide) (by decide) (fun v37 => [(3, .int v37), (4, .int v20), (6, .int v17), (0, .ref t), (2, .int p2), (5, .int v14)]) (fun _ => rfl) rfl (fun v37 => ?_)
              refine r_aload_n (pc' := 211) hx (hd 110) rfl 3 rfl rfl ?_
              refine r_get (pc' := 214) (v := .ref (t + 20)) hx (hd 111) fl_12_113 ht rfl (by decide) rfl ?_
              have h38 := hL.1 _ _ _ ht 37 20 21 400 rfl
              refine r_iload_n (pc' := 215) hx (hd 112) rfl 0 rfl rfl ?_
              refine r_iconst (pc' := 216) (v := 1) hx (hd 113) (by decide) rfl ?_
              refine r_isub (pc' := 217) hx (hd 114) rfl ?_
              refine r_aload_n (pc' := 218) hx (hd 115) rfl 3 rfl rfl ?_
              refine r_iload (pc' := 220) hx (hd 116) 5 rfl rfl ?_
              refine r_aload_n (pc' := 221) hx (hd 117) rfl 3 rfl rfl ?_
              refine r_get (pc' := 224) (v := .ref (t + 20)) hx (hd 118) fl_12_113 ht rfl (by decide) rfl ?_
              have h39 := hL.1 _ _ _ ht 37 20 21 400 rfl
              refine r_iload_n (pc' := 225) hx (hd 119) rfl 0 rfl rfl ?_
              refine r_iconst (pc' := 226) (v := 1) hx (hd 120) (by decide) rfl ?_
              refine r_isub (pc' := 227) hx (hd 121) rfl ?_
              refine r_gd (fun h40 => ?_)
              refine r_lald (pc' := 228) (k := ix (v37 - 1)) hx (hd 122) h39 h40 rfl rfl ?_
              refine r_aload_n (pc' := 229) hx (hd 123) rfl 3 rfl rfl ?_
              refine r_get (pc' := 232) (v := .ref (t + 20)) hx (hd 124) fl_12_113 ht rfl (by decide) rfl ?_
              have h41 := hL.1 _ _ _ ht 37 20 21 400 rfl
              refine r_iload_n (pc' := 233) hx (hd 125) rfl 0 rfl rfl ?_
              refine r_gd (fun h42 => ?_)
              refine r_lald (pc' := 234) (k := ix v37) hx (hd 126) h41 h42 rfl rfl ?_
              refine r_callVJ (pc' := 237) (As := [.int v14, .long (mJ M4 (t + 20) (ix (v37 - 1))), .long (mJ M4 (t + 20) (ix v37))]) (rest := [.int (v37 - 1), .ref (t + 20)]) hx (hd 127) md_X12_reckon mi_X12_reckon ms_X12_reckon ml_12_427 (cX12_reckon (xl x) w hL t ht v14 (mJ M4 (t + 20) (ix (v37 - 1))) (mJ M4 (t + 20) (ix v37)) M4) ht rfl (by decide) ⟨Nat.le_of_ble_eq_true rfl, Nat.le_of_ble_eq_true rfl⟩ rfl rfl (Nat.le_of_ble_eq_true rfl) (fun r44 => .long r44 :: [.int (v37 - 1), .ref (t + 20)]) (fun _ => rfl) rfl (fun r44 M43 => ?_)
              refine r_gd (fun h46 => ?_)
              refine r_last (pc' := 238) (k := ix (v37 - 1)) hx (hd 128) h38 h46 rfl rfl (fun M45 => ?_)
              refine r_aload_n (pc' := 239) hx (hd 129) rfl 3 rfl rfl ?_
              refine r_aload_n (pc' := 240) hx (hd 130) rfl 3 rfl rfl ?_
              refine r_get (pc' := 243) (v := .int (mI M45 t 38)) hx (hd 131) fl_12_421 ht rfl (by decide) rfl ?_
              refine r_jn1 271 (fun v47 => [(0, .ref t), (2, .int p2), (3, .int v37), (4, .int v20)]) (fun v47 => [.int v47, .ref t]) (fun v47 => M45) (fun v47 => ?_) (fun j48 hj49 => ?_)
              · skip
                refine r_gd (fun h51 => ?_)
                refine r_putZ (pc' := 274) hx (hd 146) fp_12_421 ht rfl (by decide) h51 rfl (fun M50 => ?_)
                refine r_goto (tgt := 339) hx (hd 147) (by decide) ?_
                exact hj25 v37 v20 M50
              refine r_jn0 266 ([(0, .ref t), (2, .int p2), (3, .int v37), (4, .int v20)]) ([.ref t]) (M45) (?_) (fun j52 hj53 => ?_)
              · skip
                refine r_iconst (pc' := 267) (v := 1) hx (hd 143) (by decide) rfl ?_
                refine r_goto (tgt := 271) hx (hd 144) (by decide) ?_
                exact hj49 1
              refine r_if_ne (tgt := 266) (pc' := 246) hx (hd 132) (by decide) (fun _ => ?_) rfl (fun _ => ?_)
              · skip
                refine r_sub [3, 4, 0, 1] rfl ?_
                exact hj53
              · skip
                refine r_aload_n (pc' := 247) hx (hd 133) rfl 3 rfl rfl ?_
                refine r_get (pc' := 250) (v := .ref (t + 20)) hx (hd 134) fl_12_113 ht rfl (by decide) rfl ?_
                have h54 := hL.1 _ _ _ ht 37 20 21 400 rfl
                refine r_iload_n (pc' := 251) hx (hd 135) rfl 0 rfl rfl ?_
                refine r_iconst (pc' := 252) (v := 1) hx (hd 136) (by decide) rfl ?_
                refine r_isub (pc' := 253) hx (hd 137) rfl ?_
                refine r_gd (fun h55 => ?_)
                refine r_lald (pc' := 254) (k := ix (v37 - 1)) hx (hd 138) h54 h55 rfl rfl ?_
                refine r_ldc2 (pc' := 257) hx (hd 139) kc_12_431 rfl ?_
                refine r_ldc2 (pc' := 260) hx (hd 140) kc_12_433 rfl ?_
                refine r_callS (pc' := 263) (As := [.long (mJ M45 (t + 20) (ix (v37 - 1))), .long (-1000000000), .long 1000000000]) (rest := [.ref t]) hx (hd 141) md_X12_in mst_X12_in ml_12_208 (cX12_in (xl x) w hL (mJ M45 (t + 20) (ix (v37 - 1))) (-1000000000) 1000000000 M45) ⟨Nat.le_of_ble_eq_true rfl, Nat.le_of_ble_eq_true rfl⟩ rfl rfl (Nat.le_of_ble_eq_true rfl) (fun r56 => .int r56 :: [.ref t]) (fun _ => M45) (fun _ => ⟨rfl, rfl⟩) rfl (fun r56 _ => ?_)
                refine r_if_ne (tgt := 270) (pc' := 266) hx (hd 142) (by decide) (fun _ => ?_) rfl (fun _ => ?_)
                · skip
                  refine r_iconst (pc' := 271) (v := 0) hx (hd 145) (by decide) rfl ?_
                  refine r_sub [3, 4, 0, 1] rfl ?_
                  exact hj49 0
                · skip
                  refine r_sub [3, 4, 0, 1] rfl ?_
                  exact hj53
          · skip
            refine r_aload_n (pc' := 108) hx (hd 59) rfl 2 rfl rfl ?_
            refine r_get (pc' := 111) (v := .ref (t + 20)) hx (hd 60) fl_12_113 ht rfl (by decide) rfl ?_
            have h57 := hL.1 _ _ _ ht 37 20 21 400 rfl
            refine r_iload_n (pc' := 112) hx (hd 61) rfl 4 rfl rfl ?_
            refine r_iload (pc' := 114) hx (hd 62) 5 rfl rfl ?_
            refine r_jn1 193 (fun v58 => [(0, .ref t), (2, .int p2), (3, .int v2), (4, .int v20)]) (fun v58 => [.long v58, .int v2, .ref (t + 20)]) (fun v58 => M4) (fun v58 => ?_) (fun j59 hj60 => ?_)
            · skip
              refine r_gd (fun h62 => ?_)
              refine r_last (pc' := 194) (k := ix v2) hx (hd 103) h57 h62 rfl rfl (fun M61 => ?_)
              refine r_iinc (pc' := 197) (v := 1) hx (hd 104) 2 rfl (by decide) (by decide) (fun v63 => [(3, .int v63), (0, .ref t), (2, .int p2), (4, .int v20)]) (fun _ => rfl) rfl (fun v63 => ?_)
              refine r_goto (tgt := 339) hx (hd 105) (by decide) ?_
              refine r_sub [1, 2, 0, 3] rfl ?_
              exact hj25 v63 v20 M61
            refine r_if_ne (tgt := 123) (pc' := 117) hx (hd 63) (by decide) (fun _ => ?_) rfl (fun _ => ?_)
            · skip
              refine r_aload_n (pc' := 124) hx (hd 67) rfl 2 rfl rfl ?_
              refine r_get (pc' := 127) (v := .int (mI M4 t 20)) hx (hd 68) fl_12_347 ht rfl (by decide) rfl ?_
              refine r_if_ne (tgt := 140) (pc' := 130) hx (hd 69) (by decide) (fun _ => ?_) rfl (fun _ => ?_)
              · skip
                refine r_iload (pc' := 142) hx (hd 75) 5 rfl rfl ?_
                refine r_bipush (pc' := 144) (v := 6) hx (hd 76) (by decide) rfl ?_
                refine r_icmp_ge (tgt := 157) (pc' := 147) hx (hd 77) (by decide) (fun _ => ?_) rfl (fun _ => ?_)
                · skip
                  refine r_iload (pc' := 159) hx (hd 83) 5 rfl rfl ?_
                  refine r_bipush (pc' := 161) (v := 6) hx (hd 84) (by decide) rfl ?_
                  refine r_icmp_ne (tgt := 178) (pc' := 164) hx (hd 85) (by decide) (fun _ => ?_) rfl (fun _ => ?_)
                  · skip
                    refine r_aload_n (pc' := 179) hx (hd 94) rfl 2 rfl rfl ?_
                    refine r_iload (pc' := 181) hx (hd 95) 1 rfl rfl ?_
                    refine r_bipush (pc' := 183) (v := 6) hx (hd 96) (by decide) rfl ?_
                    refine r_idiv (pc' := 184) hx (hd 97) (by decide) rfl ?_
                    refine r_iload (pc' := 186) hx (hd 98) 1 rfl rfl ?_
                    refine r_bipush (pc' := 188) (v := 6) hx (hd 99) (by decide) rfl ?_
                    refine r_irem (pc' := 189) hx (hd 100) (by decide) rfl ?_
                    refine r_callV (pc' := 192) (As := [.int (v17 / 6), .int (irm v17 6)]) (rest := [.int v2, .ref (t + 20)]) hx (hd 101) md_X12_cardOf mi_X12_cardOf ms_X12_cardOf ml_12_238 (cX12_cardOf (xl x) w hL t ht (v17 / 6) (irm v17 6) M4) ht rfl (by decide) ⟨Nat.le_of_ble_eq_true rfl, Nat.le_of_ble_eq_true rfl⟩ rfl rfl (Nat.le_of_ble_eq_true rfl) (fun r64 => .int r64 :: [.int v2, .ref (t + 20)]) (fun _ => M4) (fun _ => ⟨rfl, rfl⟩) rfl (fun r64 _ => ?_)
                    refine r_i2l (pc' := 193) hx (hd 102) rfl ?_
                    refine r_sub [2, 3, 4, 0] rfl ?_
                    exact hj60 (r64.toInt64)
                  · skip
                    refine r_aload_n (pc' := 165) hx (hd 86) rfl 2 rfl rfl ?_
                    refine r_get (pc' := 168) (v := .ref (t + 2)) hx (hd 87) fl_12_13 ht rfl (by decide) rfl ?_
                    have h65 := hL.1 _ _ _ ht 3 2 20 5594 rfl
                    refine r_bipush (pc' := 170) (v := 16) hx (hd 88) (by decide) rfl ?_
                    refine r_iload (pc' := 172) hx (hd 89) 1 rfl rfl ?_
                    refine r_iadd (pc' := 173) hx (hd 90) rfl ?_
                    refine r_gd (fun h66 => ?_)
                    refine r_iald (pc' := 174) (k := ix (16 + v17)) hx (hd 91) h65 h66 rfl rfl ?_
                    refine r_i2l (pc' := 175) hx (hd 92) rfl ?_
                    refine r_goto (tgt := 193) hx (hd 93) (by decide) ?_
                    refine r_sub [2, 3, 4, 0] rfl ?_
                    exact hj60 ((mI M4 (t + 2) (ix (16 + v17))).toInt64)
                · skip
                  refine r_aload_n (pc' := 148) hx (hd 78) rfl 2 rfl rfl ?_
                  refine r_get (pc' := 151) (v := .ref (t + 19)) hx (hd 79) fl_12_110 ht rfl (by decide) rfl ?_
                  have h67 := hL.1 _ _ _ ht 36 19 21 13 rfl
                  refine r_iload (pc' := 153) hx (hd 80) 5 rfl rfl ?_
                  refine r_gd (fun h68 => ?_)
                  refine r_lald (pc' := 154) (k := ix v14) hx (hd 81) h67 h68 rfl rfl ?_
                  refine r_goto (tgt := 193) hx (hd 82) (by decide) ?_
                  refine r_sub [2, 3, 4, 0] rfl ?_
                  exact hj60 (mJ M4 (t + 19) (ix v14))
              · skip
                refine r_aload_n (pc' := 131) hx (hd 70) rfl 2 rfl rfl ?_
                refine r_get (pc' := 134) (v := .ref (t + 18)) hx (hd 71) fl_12_107 ht rfl (by decide) rfl ?_
                have h69 := hL.1 _ _ _ ht 35 18 21 13 rfl
                refine r_iload (pc' := 136) hx (hd 72) 5 rfl rfl ?_
                refine r_gd (fun h70 => ?_)
                refine r_lald (pc' := 137) (k := ix v14) hx (hd 73) h69 h70 rfl rfl ?_
                refine r_goto (tgt := 193) hx (hd 74) (by decide) ?_
                refine r_sub [2, 3, 4, 0] rfl ?_
                exact hj60 (mJ M4 (t + 18) (ix v14))
            · skip
              refine r_iload (pc' := 119) hx (hd 64) 1 rfl rfl ?_
              refine r_i2l (pc' := 120) hx (hd 65) rfl ?_
              refine r_goto (tgt := 193) hx (hd 66) (by decide) ?_
              refine r_sub [2, 3, 4, 0] rfl ?_
              exact hj60 (v17.toInt64)
        refine r_if_eq (tgt := 76) (pc' := 66) hx (hd 35) (by decide) (fun _ => ?_) rfl (fun _ => ?_)
        · skip
          refine r_aload_n (pc' := 77) hx (hd 41) rfl 1 rfl rfl ?_
          refine r_get (pc' := 80) (v := .ref (t + 2)) hx (hd 42) fl_12_13 ht rfl (by decide) rfl ?_
          have h71 := hL.1 _ _ _ ht 3 2 20 5594 rfl
          refine r_aload_n (pc' := 81) hx (hd 43) rfl 1 rfl rfl ?_
          refine r_get (pc' := 84) (v := .int (mI M4 t 34)) hx (hd 44) fl_12_424 ht rfl (by decide) rfl ?_
          refine r_bipush (pc' := 86) (v := 98) hx (hd 45) (by decide) rfl ?_
          refine r_iadd (pc' := 87) hx (hd 46) rfl ?_
          refine r_iconst (pc' := 88) (v := 2) hx (hd 47) (by decide) rfl ?_
          refine r_iload (pc' := 90) hx (hd 48) 4 rfl rfl ?_
          refine r_imul (pc' := 91) hx (hd 49) rfl ?_
          refine r_iadd (pc' := 92) hx (hd 50) rfl ?_
          refine r_iconst (pc' := 93) (v := 1) hx (hd 51) (by decide) rfl ?_
          refine r_iadd (pc' := 94) hx (hd 52) rfl ?_
          refine r_gd (fun h72 => ?_)
          refine r_iald (pc' := 95) (k := ix ((((mI M4 t 34) + 98) + (2 * v3)) + 1)) hx (hd 53) h71 h72 rfl rfl ?_
          refine r_sub [1, 2, 3, 4, 0] rfl ?_
          exact hj19 (mI M4 (t + 2) (ix ((((mI M4 t 34) + 98) + (2 * v3)) + 1)))
        · skip
          refine r_aload_n (pc' := 67) hx (hd 36) rfl 1 rfl rfl ?_
          refine r_get (pc' := 70) (v := .ref (t + 12)) hx (hd 37) fl_12_48 ht rfl (by decide) rfl ?_
          have h73 := hL.1 _ _ _ ht 25 12 20 400 rfl
          refine r_iload (pc' := 72) hx (hd 38) 4 rfl rfl ?_
          refine r_gd (fun h74 => ?_)
          refine r_iald (pc' := 73) (k := ix v3) hx (hd 39) h73 h74 rfl rfl ?_
          refine r_goto (tgt := 95) hx (hd 40) (by decide) ?_
          refine r_sub [1, 2, 3, 4, 0] rfl ?_
          exact hj19 (mI M4 (t + 12) (ix v3))
      refine r_if_eq (tgt := 40) (pc' := 30) hx (hd 15) (by decide) (fun _ => ?_) rfl (fun _ => ?_)
      · skip
        refine r_aload_n (pc' := 41) hx (hd 21) rfl 0 rfl rfl ?_
        refine r_get (pc' := 44) (v := .ref (t + 2)) hx (hd 22) fl_12_13 ht rfl (by decide) rfl ?_
        have h75 := hL.1 _ _ _ ht 3 2 20 5594 rfl
        refine r_aload_n (pc' := 45) hx (hd 23) rfl 0 rfl rfl ?_
        refine r_get (pc' := 48) (v := .int (mI M4 t 34)) hx (hd 24) fl_12_424 ht rfl (by decide) rfl ?_
        refine r_bipush (pc' := 50) (v := 98) hx (hd 25) (by decide) rfl ?_
        refine r_iadd (pc' := 51) hx (hd 26) rfl ?_
        refine r_iconst (pc' := 52) (v := 2) hx (hd 27) (by decide) rfl ?_
        refine r_iload (pc' := 54) hx (hd 28) 3 rfl rfl ?_
        refine r_imul (pc' := 55) hx (hd 29) rfl ?_
        refine r_iadd (pc' := 56) hx (hd 30) rfl ?_
        refine r_gd (fun h76 => ?_)
        refine r_iald (pc' := 57) (k := ix (((mI M4 t 34) + 98) + (2 * v3))) hx (hd 31) h75 h76 rfl rfl ?_
        exact hj16 (mI M4 (t + 2) (ix (((mI M4 t 34) + 98) + (2 * v3))))
      · skip
        refine r_aload_n (pc' := 31) hx (hd 16) rfl 0 rfl rfl ?_
        refine r_get (pc' := 34) (v := .ref (t + 11)) hx (hd 17) fl_12_45 ht rfl (by decide) rfl ?_
        have h77 := hL.1 _ _ _ ht 24 11 20 400 rfl
        refine r_iload (pc' := 36) hx (hd 18) 3 rfl rfl ?_
        refine r_gd (fun h78 => ?_)
        refine r_iald (pc' := 37) (k := ix v3) hx (hd 19) h77 h78 rfl rfl ?_
        refine r_goto (tgt := 57) hx (hd 20) (by decide) ?_
        exact hj16 (mI M4 (t + 11) (ix v3))
abbrev yX12_isSo : MethodName := ({ cls := "CribbageRoomModel", name := "isSo", desc := "(I)Z" } : Jvm.MethodName)
def tbX12_isSo : List (Nat × Instr × Nat) := [(0, .aload_n 0, 1), (1, .getfield 13, 3), (4, .iload_n 1, 1), (5, .iconst 5, 1), (6, .iadd, 1), (7, .iaload, 1), (8, .aload_n 0, 1), (9, .getfield 13, 3), (12, .iload_n 1, 1), (13, .bipush 6, 2), (15, .iadd, 1), (16, .iaload, 1), (17, .if_icmp .ge 42, 3), (20, .aload_n 0, 1), (21, .aload_n 0, 1), (22, .getfield 13, 3), (25, .iload_n 1, 1), (26, .iconst 5, 1), (27, .iadd, 1), (28, .iaload, 1), (29, .aload_n 0, 1), (30, .getfield 13, 3), (33, .iload_n 1, 1), (34, .bipush 6, 2), (36, .iadd, 1), (37, .iaload, 1), (38, .invokevirtual 438, 3), (41, .aload_n 0, 1), (42, .getfield 421, 3), (45, .ifCond .ne 12, 3), (48, .aload_n 0, 1), (49, .getfield 435, 3), (52, .lconst 0, 1), (53, .lcmp, 1), (54, .ifCond .ne 5, 3), (57, .iconst 0, 1), (58, .ireturn, 1), (59, .aload_n 0, 1), (60, .getfield 13, 3), (63, .iload_n 1, 1), (64, .iaload, 1), (65, .bipush 6, 2), (67, .if_icmp .eq 44, 3), (70, .aload_n 0, 1), (71, .aload_n 0, 1), (72, .getfield 13, 3), (75, .iload_n 1, 1), (76, .iconst 3, 1), (77, .iadd, 1), (78, .iaload, 1), (79, .aload_n 0, 1), (80, .getfield 13, 3), (83, .iload_n 1, 1), (84, .iconst 4, 1), (85, .iadd, 1), (86, .iaload, 1), (87, .invokevirtual 438, 3), (90, .aload_n 0, 1), (91, .aload_n 0, 1), (92, .getfield 435, 3), (95, .putfield 441, 3), (98, .aload_n 0, 1), (99, .getfield 421, 3), (102, .ifCond .ne 7, 3), (105, .iconst 1, 1), (106, .goto 4, 3), (109, .iconst 0, 1), (110, .ireturn, 1), (111, .iconst 1, 1), (112, .ireturn, 1)]
theorem dX12_isSo : ∀ q ∈ tbX12_isSo, decode prog_14_method_63_code q.1 = .ok q.2 := by decide +kernel
set_option maxRecDepth 20000 in
theorem cX12_isSo (l : Launch) (w : WX) (hL : Lay w) (t : Nat) (ht : Wat w t 12 0) (p1 : Int32) (M : Mem) : Ct l w yX12_isSo prog_14_method_63_code 2 (Option.some FieldType.boolean) 2 51 evIM emM [.ref t, .int p1] M (FX12_isSo t p1 M) := by
  refine ct_of (by decide) (Nat.le_of_ble_eq_true rfl) (fun x hl hx hb hz => ?_)
  subst hl
  have hd : ∀ i, DAt (xc x).code (tbX12_isSo[i]?) := fun i => by rw [hb]; exact dat_of dX12_isSo i
  show C x w (Qn x w evIM emM) 2 0 [(0, .ref t), (1, .int p1)] [] M (FX12_isSo t p1 M)
  unfold FX12_isSo
  refine r_aload_n (pc' := 1) hx (hd 0) rfl 0 rfl rfl ?_
  refine r_get (pc' := 4) (v := .ref (t + 2)) hx (hd 1) fl_12_13 ht rfl (by decide) rfl ?_
  have h1 := hL.1 _ _ _ ht 3 2 20 5594 rfl
  refine r_iload_n (pc' := 5) hx (hd 2) rfl 1 rfl rfl ?_
  refine r_iconst (pc' := 6) (v := 5) hx (hd 3) (by decide) rfl ?_
  refine r_iadd (pc' := 7) hx (hd 4) rfl ?_
  refine r_gd (fun h2 => ?_)
  refine r_iald (pc' := 8) (k := ix (p1 + 5)) hx (hd 5) h1 h2 rfl rfl ?_
  refine r_aload_n (pc' := 9) hx (hd 6) rfl 0 rfl rfl ?_
  refine r_get (pc' := 12) (v := .ref (t + 2)) hx (hd 7) fl_12_13 ht rfl (by decide) rfl ?_
  have h3 := hL.1 _ _ _ ht 3 2 20 5594 rfl
  refine r_iload_n (pc' := 13) hx (hd 8) rfl 1 rfl rfl ?_
  refine r_bipush (pc' := 15) (v := 6) hx (hd 9) (by decide) rfl ?_
  refine r_iadd (pc' := 16) hx (hd 10) rfl ?_
  refine r_gd (fun h4 => ?_)
  refine r_iald (pc' := 17) (k := ix (p1 + 6)) hx (hd 11) h3 h4 rfl rfl ?_
  refine r_jn1 59 (fun M5 => [(0, .ref t), (1, .int p1)]) (fun M5 => []) (fun M5 => M5) (fun M5 => ?_) (fun j6 hj7 => ?_)
  · skip
    refine r_aload_n (pc' := 60) hx (hd 37) rfl 0 rfl rfl ?_
    refine r_get (pc' := 63) (v := .ref (t + 2)) hx (hd 38) fl_12_13 ht rfl (by decide) rfl ?_
    have h8 := hL.1 _ _ _ ht 3 2 20 5594 rfl
    refine r_iload_n (pc' := 64) hx (hd 39) rfl 1 rfl rfl ?_
    refine r_gd (fun h9 => ?_)
    refine r_iald (pc' := 65) (k := ix p1) hx (hd 40) h8 h9 rfl rfl ?_
    refine r_bipush (pc' := 67) (v := 6) hx (hd 41) (by decide) rfl ?_
    refine r_icmp_eq (tgt := 111) (pc' := 70) hx (hd 42) (by decide) (fun _ => ?_) rfl (fun _ => ?_)
    · skip
      refine r_iconst (pc' := 112) (v := 1) hx (hd 68) (by decide) rfl ?_
      exact r_zret hx (hd 69) rfl rfl rfl hz
    · skip
      refine r_aload_n (pc' := 71) hx (hd 43) rfl 0 rfl rfl ?_
      refine r_aload_n (pc' := 72) hx (hd 44) rfl 0 rfl rfl ?_
      refine r_get (pc' := 75) (v := .ref (t + 2)) hx (hd 45) fl_12_13 ht rfl (by decide) rfl ?_
      have h10 := hL.1 _ _ _ ht 3 2 20 5594 rfl
      refine r_iload_n (pc' := 76) hx (hd 46) rfl 1 rfl rfl ?_
      refine r_iconst (pc' := 77) (v := 3) hx (hd 47) (by decide) rfl ?_
      refine r_iadd (pc' := 78) hx (hd 48) rfl ?_
      refine r_gd (fun h11 => ?_)
      refine r_iald (pc' := 79) (k := ix (p1 + 3)) hx (hd 49) h10 h11 rfl rfl ?_
      refine r_aload_n (pc' := 80) hx (hd 50) rfl 0 rfl rfl ?_
      refine r_get (pc' := 83) (v := .ref (t + 2)) hx (hd 51) fl_12_13 ht rfl (by decide) rfl ?_
      have h12 := hL.1 _ _ _ ht 3 2 20 5594 rfl
      refine r_iload_n (pc' := 84) hx (hd 52) rfl 1 rfl rfl ?_
      refine r_iconst (pc' := 85) (v := 4) hx (hd 53) (by decide) rfl ?_
      refine r_iadd (pc' := 86) hx (hd 54) rfl ?_
      refine r_gd (fun h13 => ?_)
      refine r_iald (pc' := 87) (k := ix (p1 + 4)) hx (hd 55) h12 h13 rfl rfl ?_
      refine r_callVU (pc' := 90) (As := [.int (mI M5 (t + 2) (ix (p1 + 3))), .int (mI M5 (t + 2) (ix (p1 + 4)))]) (rest := []) hx (hd 56) md_X12_reckonAll mi_X12_reckonAll ms_X12_reckonAll ml_12_438 (cX12_reckonAll (xl x) w hL t ht (mI M5 (t + 2) (ix (p1 + 3))) (mI M5 (t + 2) (ix (p1 + 4))) M5) ht rfl (by decide) ⟨Nat.le_of_ble_eq_true rfl, Nat.le_of_ble_eq_true rfl⟩ rfl rfl (Nat.le_of_ble_eq_true rfl) rfl (fun M14 => ?_)
      refine r_aload_n (pc' := 91) hx (hd 57) rfl 0 rfl rfl ?_
      refine r_aload_n (pc' := 92) hx (hd 58) rfl 0 rfl rfl ?_
      refine r_get (pc' := 95) (v := .long (mJ M14 t 39)) hx (hd 59) fl_12_435 ht rfl (by decide) rfl ?_
      refine r_putJ (pc' := 98) hx (hd 60) fp_12_441 ht rfl (by decide) rfl (fun M15 => ?_)
      refine r_aload_n (pc' := 99) hx (hd 61) rfl 0 rfl rfl ?_
      refine r_get (pc' := 102) (v := .int (mI M15 t 38)) hx (hd 62) fl_12_421 ht rfl (by decide) rfl ?_
      refine r_jn1 110 (fun v16 => []) (fun v16 => [.int v16]) (fun v16 => M15) (fun v16 => ?_) (fun j17 hj18 => ?_)
      · skip
        refine r_gd (fun h19 => ?_)
        exact r_zret hx (hd 67) h19 rfl rfl hz
      refine r_if_ne (tgt := 109) (pc' := 105) hx (hd 63) (by decide) (fun _ => ?_) rfl (fun _ => ?_)
      · skip
        refine r_iconst (pc' := 110) (v := 0) hx (hd 66) (by decide) rfl ?_
        refine r_sub [] rfl ?_
        exact hj18 0
      · skip
        refine r_iconst (pc' := 106) (v := 1) hx (hd 64) (by decide) rfl ?_
        refine r_goto (tgt := 110) hx (hd 65) (by decide) ?_
        refine r_sub [] rfl ?_
        exact hj18 1
  refine r_icmp_ge (tgt := 59) (pc' := 20) hx (hd 12) (by decide) (fun _ => ?_) rfl (fun _ => ?_)
  · skip
    exact hj7 M
  · skip
    refine r_aload_n (pc' := 21) hx (hd 13) rfl 0 rfl rfl ?_
    refine r_aload_n (pc' := 22) hx (hd 14) rfl 0 rfl rfl ?_
    refine r_get (pc' := 25) (v := .ref (t + 2)) hx (hd 15) fl_12_13 ht rfl (by decide) rfl ?_
    have h20 := hL.1 _ _ _ ht 3 2 20 5594 rfl
    refine r_iload_n (pc' := 26) hx (hd 16) rfl 1 rfl rfl ?_
    refine r_iconst (pc' := 27) (v := 5) hx (hd 17) (by decide) rfl ?_
    refine r_iadd (pc' := 28) hx (hd 18) rfl ?_
    refine r_gd (fun h21 => ?_)
    refine r_iald (pc' := 29) (k := ix (p1 + 5)) hx (hd 19) h20 h21 rfl rfl ?_
    refine r_aload_n (pc' := 30) hx (hd 20) rfl 0 rfl rfl ?_
    refine r_get (pc' := 33) (v := .ref (t + 2)) hx (hd 21) fl_12_13 ht rfl (by decide) rfl ?_
    have h22 := hL.1 _ _ _ ht 3 2 20 5594 rfl
    refine r_iload_n (pc' := 34) hx (hd 22) rfl 1 rfl rfl ?_
    refine r_bipush (pc' := 36) (v := 6) hx (hd 23) (by decide) rfl ?_
    refine r_iadd (pc' := 37) hx (hd 24) rfl ?_
    refine r_gd (fun h23 => ?_)
    refine r_iald (pc' := 38) (k := ix (p1 + 6)) hx (hd 25) h22 h23 rfl rfl ?_
    refine r_callVU (pc' := 41) (As := [.int (mI M (t + 2) (ix (p1 + 5))), .int (mI M (t + 2) (ix (p1 + 6)))]) (rest := []) hx (hd 26) md_X12_reckonAll mi_X12_reckonAll ms_X12_reckonAll ml_12_438 (cX12_reckonAll (xl x) w hL t ht (mI M (t + 2) (ix (p1 + 5))) (mI M (t + 2) (ix (p1 + 6))) M) ht rfl (by decide) ⟨Nat.le_of_ble_eq_true rfl, Nat.le_of_ble_eq_true rfl⟩ rfl rfl (Nat.le_of_ble_eq_true rfl) rfl (fun M24 => ?_)
    refine r_aload_n (pc' := 42) hx (hd 27) rfl 0 rfl rfl ?_
    refine r_get (pc' := 45) (v := .int (mI M24 t 38)) hx (hd 28) fl_12_421 ht rfl (by decide) rfl ?_
    refine r_jn0 57 ([]) ([]) (M24) (?_) (fun j25 hj26 => ?_)
    · skip
      refine r_iconst (pc' := 58) (v := 0) hx (hd 35) (by decide) rfl ?_
      exact r_zret hx (hd 36) rfl rfl rfl hz
    refine r_if_ne (tgt := 57) (pc' := 48) hx (hd 29) (by decide) (fun _ => ?_) rfl (fun _ => ?_)
    · skip
      refine r_sub [] rfl ?_
      exact hj26
    · skip
      refine r_aload_n (pc' := 49) hx (hd 30) rfl 0 rfl rfl ?_
      refine r_get (pc' := 52) (v := .long (mJ M24 t 39)) hx (hd 31) fl_12_435 ht rfl (by decide) rfl ?_
      refine r_lconst (pc' := 53) (v := 0) hx (hd 32) (by decide) rfl ?_
      refine r_lcmp_ne (tgt := 59) (pc' := 57) hx (hd 33) (hd 34) (by decide) (fun _ => ?_) rfl (fun _ => ?_)
      · skip
        exact hj7 M24
      · skip
        refine r_sub [] rfl ?_
        exact hj26
abbrev yX12_tells : MethodName := ({ cls := "CribbageRoomModel", name := "tells", desc := "(IIIIIJ)J" } : Jvm.MethodName)
def tbX12_tells : List (Nat × Instr × Nat) := [(0, .aload_n 0, 1), (1, .getfield 13, 3), (4, .iconst 2, 1), (5, .iaload, 1), (6, .iconst (-1), 1), (7, .if_icmp .ne 6, 3), (10, .lload 6, 2), (12, .lreturn, 1), (13, .aload_n 0, 1), (14, .sipush 194, 3), (17, .sipush 900, 3), (20, .aload_n 0, 1), (21, .getfield 13, 3), (24, .iconst 2, 1), (25, .iaload, 1), (26, .imul, 1), (27, .iadd, 1), (28, .putfield 424, 3), (31, .aload_n 0, 1), (32, .getfield 107, 3), (35, .iconst 1, 1), (36, .iload_n 2, 1), (37, .i2l, 1), (38, .lastore, 1), (39, .aload_n 0, 1), (40, .getfield 107, 3), (43, .iconst 2, 1), (44, .iload_n 3, 1), (45, .i2l, 1), (46, .lastore, 1), (47, .aload_n 0, 1), (48, .getfield 107, 3), (51, .iconst 3, 1), (52, .iload 4, 2), (54, .i2l, 1), (55, .lastore, 1), (56, .aload_n 0, 1), (57, .getfield 107, 3), (60, .iconst 4, 1), (61, .iload 5, 2), (63, .i2l, 1), (64, .lastore, 1), (65, .aload_n 0, 1), (66, .getfield 107, 3), (69, .iconst 5, 1), (70, .aload_n 0, 1), (71, .getfield 13, 3), (74, .bipush 8, 2), (76, .iaload, 1), (77, .i2l, 1), (78, .lastore, 1), (79, .aload_n 0, 1), (80, .getfield 107, 3), (83, .bipush 6, 2), (85, .aload_n 0, 1), (86, .getfield 13, 3), (89, .bipush 6, 2), (91, .iaload, 1), (92, .i2l, 1), (93, .lastore, 1), (94, .lload 6, 2), (96, .lstore 8, 2), (98, .iconst 0, 1), (99, .istore 10, 2), (101, .iload 10, 2), (103, .aload_n 0, 1), (104, .getfield 13, 3), (107, .aload_n 0, 1), (108, .getfield 424, 3), (111, .iconst 1, 1), (112, .iadd, 1), (113, .iaload, 1), (114, .if_icmp .ge 59, 3), (117, .aload_n 0, 1), (118, .getfield 424, 3), (121, .iconst 2, 1), (122, .iadd, 1), (123, .bipush 8, 2), (125, .iload 10, 2), (127, .imul, 1), (128, .iadd, 1), (129, .istore 11, 2), (131, .aload_n 0, 1), (132, .getfield 13, 3), (135, .iload 11, 2), (137, .iaload, 1), (138, .iload_n 1, 1), (139, .if_icmp .ne 28, 3), (142, .aload_n 0, 1), (143, .iload 11, 2), (145, .invokevirtual 444, 3), (148, .ifCond .eq 19, 3), (151, .iload_n 1, 1), (152, .bipush 6, 2), (154, .if_icmp .ne 7, 3), (157, .lconst 1, 1), (158, .goto 7, 3), (161, .aload_n 0, 1), (162, .getfield 441, 3), (165, .lstore 8, 2), (167, .iinc 10 1, 3), (170, .goto (-69), 3), (173, .lload 8, 2), (175, .lreturn, 1)]
theorem dX12_tells : ∀ q ∈ tbX12_tells, decode prog_14_method_64_code q.1 = .ok q.2 := by decide +kernel
set_option maxRecDepth 20000 in
theorem cX12_tells (l : Launch) (w : WX) (hL : Lay w) (t : Nat) (ht : Wat w t 12 0) (p1 : Int32) (p2 : Int32) (p3 : Int32) (p4 : Int32) (p5 : Int32) (p6 : Int64) (M : Mem) : Ct l w yX12_tells prog_14_method_64_code 12 (Option.some FieldType.long) 3 72 evJM emM [.ref t, .int p1, .int p2, .int p3, .int p4, .int p5, .long p6] M (FX12_tells t p1 p2 p3 p4 p5 p6 M) := by
  refine ct_of (by decide) (Nat.le_of_ble_eq_true rfl) (fun x hl hx hb hz => ?_)
  subst hl
  have hd : ∀ i, DAt (xc x).code (tbX12_tells[i]?) := fun i => by rw [hb]; exact dat_of dX12_tells i
  show C x w (Qn x w evJM emM) 12 0 [(0, .ref t), (1, .int p1), (2, .int p2), (3, .int p3), (4, .int p4), (5, .int p5), (6, .long p6)] [] M (FX12_tells t p1 p2 p3 p4 p5 p6 M)
  unfold FX12_tells
  refine r_aload_n (pc' := 1) hx (hd 0) rfl 0 rfl rfl ?_
  refine r_get (pc' := 4) (v := .ref (t + 2)) hx (hd 1) fl_12_13 ht rfl (by decide) rfl ?_
  have h1 := hL.1 _ _ _ ht 3 2 20 5594 rfl
  refine r_iconst (pc' := 5) (v := 2) hx (hd 2) (by decide) rfl ?_
  refine r_iald (pc' := 6) (k := 2) hx (hd 3) h1 (by decide) (by decide) rfl ?_
  refine r_iconst (pc' := 7) (v := (-1)) hx (hd 4) (by decide) rfl ?_
  refine r_icmp_ne (tgt := 13) (pc' := 10) hx (hd 5) (by decide) (fun _ => ?_) rfl (fun _ => ?_)
  · skip
    refine r_aload_n (pc' := 14) hx (hd 8) rfl 0 rfl rfl ?_
    refine r_sipush (pc' := 17) (v := 194) hx (hd 9) (by decide) rfl ?_
    refine r_sipush (pc' := 20) (v := 900) hx (hd 10) (by decide) rfl ?_
    refine r_aload_n (pc' := 21) hx (hd 11) rfl 0 rfl rfl ?_
    refine r_get (pc' := 24) (v := .ref (t + 2)) hx (hd 12) fl_12_13 ht rfl (by decide) rfl ?_
    have h2 := hL.1 _ _ _ ht 3 2 20 5594 rfl
    refine r_iconst (pc' := 25) (v := 2) hx (hd 13) (by decide) rfl ?_
    refine r_iald (pc' := 26) (k := 2) hx (hd 14) h2 (by decide) (by decide) rfl ?_
    refine r_imul (pc' := 27) hx (hd 15) rfl ?_
    refine r_iadd (pc' := 28) hx (hd 16) rfl ?_
    refine r_putI (pc' := 31) hx (hd 17) fp_12_424 ht rfl (by decide) rfl (fun M3 => ?_)
    refine r_aload_n (pc' := 32) hx (hd 18) rfl 0 rfl rfl ?_
    refine r_get (pc' := 35) (v := .ref (t + 18)) hx (hd 19) fl_12_107 ht rfl (by decide) rfl ?_
    have h4 := hL.1 _ _ _ ht 35 18 21 13 rfl
    refine r_iconst (pc' := 36) (v := 1) hx (hd 20) (by decide) rfl ?_
    refine r_iload_n (pc' := 37) hx (hd 21) rfl 2 rfl rfl ?_
    refine r_i2l (pc' := 38) hx (hd 22) rfl ?_
    refine r_last (pc' := 39) (k := 1) hx (hd 23) h4 (by decide) (by decide) rfl (fun M5 => ?_)
    refine r_aload_n (pc' := 40) hx (hd 24) rfl 0 rfl rfl ?_
    refine r_get (pc' := 43) (v := .ref (t + 18)) hx (hd 25) fl_12_107 ht rfl (by decide) rfl ?_
    have h6 := hL.1 _ _ _ ht 35 18 21 13 rfl
    refine r_iconst (pc' := 44) (v := 2) hx (hd 26) (by decide) rfl ?_
    refine r_iload_n (pc' := 45) hx (hd 27) rfl 3 rfl rfl ?_
    refine r_i2l (pc' := 46) hx (hd 28) rfl ?_
    refine r_last (pc' := 47) (k := 2) hx (hd 29) h6 (by decide) (by decide) rfl (fun M7 => ?_)
    refine r_aload_n (pc' := 48) hx (hd 30) rfl 0 rfl rfl ?_
    refine r_get (pc' := 51) (v := .ref (t + 18)) hx (hd 31) fl_12_107 ht rfl (by decide) rfl ?_
    have h8 := hL.1 _ _ _ ht 35 18 21 13 rfl
    refine r_iconst (pc' := 52) (v := 3) hx (hd 32) (by decide) rfl ?_
    refine r_iload (pc' := 54) hx (hd 33) 4 rfl rfl ?_
    refine r_i2l (pc' := 55) hx (hd 34) rfl ?_
    refine r_last (pc' := 56) (k := 3) hx (hd 35) h8 (by decide) (by decide) rfl (fun M9 => ?_)
    refine r_aload_n (pc' := 57) hx (hd 36) rfl 0 rfl rfl ?_
    refine r_get (pc' := 60) (v := .ref (t + 18)) hx (hd 37) fl_12_107 ht rfl (by decide) rfl ?_
    have h10 := hL.1 _ _ _ ht 35 18 21 13 rfl
    refine r_iconst (pc' := 61) (v := 4) hx (hd 38) (by decide) rfl ?_
    refine r_iload (pc' := 63) hx (hd 39) 5 rfl rfl ?_
    refine r_i2l (pc' := 64) hx (hd 40) rfl ?_
    refine r_last (pc' := 65) (k := 4) hx (hd 41) h10 (by decide) (by decide) rfl (fun M11 => ?_)
    refine r_aload_n (pc' := 66) hx (hd 42) rfl 0 rfl rfl ?_
    refine r_get (pc' := 69) (v := .ref (t + 18)) hx (hd 43) fl_12_107 ht rfl (by decide) rfl ?_
    have h12 := hL.1 _ _ _ ht 35 18 21 13 rfl
    refine r_iconst (pc' := 70) (v := 5) hx (hd 44) (by decide) rfl ?_
    refine r_aload_n (pc' := 71) hx (hd 45) rfl 0 rfl rfl ?_
    refine r_get (pc' := 74) (v := .ref (t + 2)) hx (hd 46) fl_12_13 ht rfl (by decide) rfl ?_
    have h13 := hL.1 _ _ _ ht 3 2 20 5594 rfl
    refine r_bipush (pc' := 76) (v := 8) hx (hd 47) (by decide) rfl ?_
    refine r_iald (pc' := 77) (k := 8) hx (hd 48) h13 (by decide) (by decide) rfl ?_
    refine r_i2l (pc' := 78) hx (hd 49) rfl ?_
    refine r_last (pc' := 79) (k := 5) hx (hd 50) h12 (by decide) (by decide) rfl (fun M14 => ?_)
    refine r_aload_n (pc' := 80) hx (hd 51) rfl 0 rfl rfl ?_
    refine r_get (pc' := 83) (v := .ref (t + 18)) hx (hd 52) fl_12_107 ht rfl (by decide) rfl ?_
    have h15 := hL.1 _ _ _ ht 35 18 21 13 rfl
    refine r_bipush (pc' := 85) (v := 6) hx (hd 53) (by decide) rfl ?_
    refine r_aload_n (pc' := 86) hx (hd 54) rfl 0 rfl rfl ?_
    refine r_get (pc' := 89) (v := .ref (t + 2)) hx (hd 55) fl_12_13 ht rfl (by decide) rfl ?_
    have h16 := hL.1 _ _ _ ht 3 2 20 5594 rfl
    refine r_bipush (pc' := 91) (v := 6) hx (hd 56) (by decide) rfl ?_
    refine r_iald (pc' := 92) (k := 6) hx (hd 57) h16 (by decide) (by decide) rfl ?_
    refine r_i2l (pc' := 93) hx (hd 58) rfl ?_
    refine r_last (pc' := 94) (k := 6) hx (hd 59) h15 (by decide) (by decide) rfl (fun M17 => ?_)
    refine r_lload (pc' := 96) hx (hd 60) 6 rfl rfl ?_
    refine r_lstore (pc' := 98) (L' := [(8, .long p6), (0, .ref t), (1, .int p1), (2, .int p2), (3, .int p3), (4, .int p4), (5, .int p5), (6, .long p6)]) hx (hd 61) (by decide) rfl rfl ?_
    refine r_iconst (pc' := 99) (v := 0) hx (hd 62) (by decide) rfl ?_
    refine r_istore (pc' := 101) (L' := [(10, .int 0), (8, .long p6), (0, .ref t), (1, .int p1), (2, .int p2), (3, .int p3), (4, .int p4), (5, .int p5), (6, .long p6)]) hx (hd 63) (by decide) rfl rfl ?_
    refine r_sub [2, 3, 1, 0] rfl ?_
    refine r_wl3 (fun v18 v19 M20 => [(0, .ref t), (1, .int p1), (8, .long v18), (10, .int v19)]) (fun v18 v19 M20 => []) (fun v18 v19 M20 => M20) (fun v18 v19 M20 rec21 ih22 => ?_) fuel p6 0 M17
    refine r_iload (pc' := 103) hx (hd 64) 3 rfl rfl ?_
    refine r_aload_n (pc' := 104) hx (hd 65) rfl 0 rfl rfl ?_
    refine r_get (pc' := 107) (v := .ref (t + 2)) hx (hd 66) fl_12_13 ht rfl (by decide) rfl ?_
    have h23 := hL.1 _ _ _ ht 3 2 20 5594 rfl
    refine r_aload_n (pc' := 108) hx (hd 67) rfl 0 rfl rfl ?_
    refine r_get (pc' := 111) (v := .int (mI M20 t 34)) hx (hd 68) fl_12_424 ht rfl (by decide) rfl ?_
    refine r_iconst (pc' := 112) (v := 1) hx (hd 69) (by decide) rfl ?_
    refine r_iadd (pc' := 113) hx (hd 70) rfl ?_
    refine r_gd (fun h24 => ?_)
    refine r_iald (pc' := 114) (k := ix ((mI M20 t 34) + 1)) hx (hd 71) h23 h24 rfl rfl ?_
    refine r_icmp_ge (tgt := 173) (pc' := 117) hx (hd 72) (by decide) (fun _ => ?_) rfl (fun _ => ?_)
    · skip
      refine r_lload (pc' := 175) hx (hd 102) 2 rfl rfl ?_
      exact r_lret hx (hd 103) rfl rfl hz
    · skip
      refine r_aload_n (pc' := 118) hx (hd 73) rfl 0 rfl rfl ?_
      refine r_get (pc' := 121) (v := .int (mI M20 t 34)) hx (hd 74) fl_12_424 ht rfl (by decide) rfl ?_
      refine r_iconst (pc' := 122) (v := 2) hx (hd 75) (by decide) rfl ?_
      refine r_iadd (pc' := 123) hx (hd 76) rfl ?_
      refine r_bipush (pc' := 125) (v := 8) hx (hd 77) (by decide) rfl ?_
      refine r_iload (pc' := 127) hx (hd 78) 3 rfl rfl ?_
      refine r_imul (pc' := 128) hx (hd 79) rfl ?_
      refine r_iadd (pc' := 129) hx (hd 80) rfl ?_
      refine r_nmI (fun v25 => ?_)
      refine r_istore (pc' := 131) (L' := [(11, .int v25), (0, .ref t), (1, .int p1), (8, .long v18), (10, .int v19)]) hx (hd 81) (by decide) rfl rfl ?_
      refine r_aload_n (pc' := 132) hx (hd 82) rfl 1 rfl rfl ?_
      refine r_get (pc' := 135) (v := .ref (t + 2)) hx (hd 83) fl_12_13 ht rfl (by decide) rfl ?_
      have h26 := hL.1 _ _ _ ht 3 2 20 5594 rfl
      refine r_iload (pc' := 137) hx (hd 84) 0 rfl rfl ?_
      refine r_gd (fun h27 => ?_)
      refine r_iald (pc' := 138) (k := ix v25) hx (hd 85) h26 h27 rfl rfl ?_
      refine r_iload_n (pc' := 139) hx (hd 86) rfl 2 rfl rfl ?_
      refine r_jn2 167 (fun v28 M29 => [(0, .ref t), (1, .int p1), (8, .long v28), (10, .int v19)]) (fun v28 M29 => []) (fun v28 M29 => M29) (fun v28 M29 => ?_) (fun j30 hj31 => ?_)
      · skip
        refine r_iinc (pc' := 170) (v := 1) hx (hd 100) 3 rfl (by decide) (by decide) (fun v32 => [(10, .int v32), (0, .ref t), (1, .int p1), (8, .long v28)]) (fun _ => rfl) rfl (fun v32 => ?_)
        refine r_goto (tgt := 101) hx (hd 101) (by decide) ?_
        refine r_sub [1, 2, 3, 0] rfl ?_
        exact ih22 v28 v32 M29
      refine r_icmp_ne (tgt := 167) (pc' := 142) hx (hd 87) (by decide) (fun _ => ?_) rfl (fun _ => ?_)
      · skip
        refine r_sub [1, 2, 3, 4] rfl ?_
        exact hj31 v18 M20
      · skip
        refine r_aload_n (pc' := 143) hx (hd 88) rfl 1 rfl rfl ?_
        refine r_iload (pc' := 145) hx (hd 89) 0 rfl rfl ?_
        refine r_callVI (pc' := 148) (As := [.int v25]) (rest := []) hx (hd 90) md_X12_isSo mi_X12_isSo ms_X12_isSo ml_12_444 (cX12_isSo (xl x) w hL t ht v25 M20) ht rfl (by decide) ⟨Nat.le_of_ble_eq_true rfl, Nat.le_of_ble_eq_true rfl⟩ rfl rfl (Nat.le_of_ble_eq_true rfl) (fun r34 => .int r34 :: []) (fun _ => rfl) rfl (fun r34 M33 => ?_)
        refine r_if_eq (tgt := 167) (pc' := 151) hx (hd 91) (by decide) (fun _ => ?_) rfl (fun _ => ?_)
        · skip
          refine r_sub [1, 2, 3, 4] rfl ?_
          exact hj31 v18 M33
        · skip
          refine r_iload_n (pc' := 152) hx (hd 92) rfl 2 rfl rfl ?_
          refine r_bipush (pc' := 154) (v := 6) hx (hd 93) (by decide) rfl ?_
          refine r_jn1 165 (fun v35 => [(0, .ref t), (1, .int p1), (10, .int v19)]) (fun v35 => [.long v35]) (fun v35 => M33) (fun v35 => ?_) (fun j36 hj37 => ?_)
          · skip
            refine r_lstore (pc' := 167) (L' := [(8, .long v35), (0, .ref t), (1, .int p1), (10, .int v19)]) hx (hd 99) (by decide) rfl rfl ?_
            refine r_sub [1, 2, 0, 3] rfl ?_
            exact hj31 v35 M33
          refine r_icmp_ne (tgt := 161) (pc' := 157) hx (hd 94) (by decide) (fun _ => ?_) rfl (fun _ => ?_)
          · skip
            refine r_aload_n (pc' := 162) hx (hd 97) rfl 1 rfl rfl ?_
            refine r_get (pc' := 165) (v := .long (mJ M33 t 40)) hx (hd 98) fl_12_441 ht rfl (by decide) rfl ?_
            refine r_sub [1, 2, 4] rfl ?_
            exact hj37 (mJ M33 t 40)
          · skip
            refine r_lconst (pc' := 158) (v := 1) hx (hd 95) (by decide) rfl ?_
            refine r_goto (tgt := 165) hx (hd 96) (by decide) ?_
            refine r_sub [1, 2, 4] rfl ?_
            exact hj37 1
  · skip
    refine r_lload (pc' := 12) hx (hd 6) 6 rfl rfl ?_
    exact r_lret hx (hd 7) rfl rfl hz
abbrev yX12_bounded : MethodName := ({ cls := "CribbageRoomModel", name := "bounded", desc := "(JII)I" } : Jvm.MethodName)
def tbX12_bounded : List (Nat × Instr × Nat) := [(0, .lload_n 0, 1), (1, .iload_n 2, 1), (2, .i2l, 1), (3, .lcmp, 1), (4, .ifCond .ge 7, 3), (7, .iload_n 2, 1), (8, .goto 16, 3), (11, .lload_n 0, 1), (12, .iload_n 3, 1), (13, .i2l, 1), (14, .lcmp, 1), (15, .ifCond .le 7, 3), (18, .iload_n 3, 1), (19, .goto 5, 3), (22, .lload_n 0, 1), (23, .l2i, 1), (24, .ireturn, 1)]
theorem dX12_bounded : ∀ q ∈ tbX12_bounded, decode prog_14_method_5_code q.1 = .ok q.2 := by decide +kernel
set_option maxRecDepth 20000 in
theorem cX12_bounded (l : Launch) (w : WX) (hL : Lay w) (p0 : Int64) (p2 : Int32) (p3 : Int32) (M : Mem) : Ct l w yX12_bounded prog_14_method_5_code 4 (Option.some FieldType.int) 0 0 evI (emC M) [.long p0, .int p2, .int p3] M (FX12_bounded p0 p2 p3) := by
  refine ct_of (by decide) (Nat.le_of_ble_eq_true rfl) (fun x hl hx hb hz => ?_)
  subst hl
  have hd : ∀ i, DAt (xc x).code (tbX12_bounded[i]?) := fun i => by rw [hb]; exact dat_of dX12_bounded i
  show C x w (Qn x w evI (emC M)) 4 0 [(0, .long p0), (2, .int p2), (3, .int p3)] [] M (FX12_bounded p0 p2 p3)
  unfold FX12_bounded
  refine r_lload_n (pc' := 1) hx (hd 0) rfl 0 rfl rfl ?_
  refine r_iload_n (pc' := 2) hx (hd 1) rfl 1 rfl rfl ?_
  refine r_i2l (pc' := 3) hx (hd 2) rfl ?_
  refine r_jn1 24 (fun v1 => []) (fun v1 => [.int v1]) (fun v1 => M) (fun v1 => ?_) (fun j2 hj3 => ?_)
  · skip
    exact r_iret hx (hd 16) rfl rfl hz
  refine r_lcmp_ge (tgt := 11) (pc' := 7) hx (hd 3) (hd 4) (by decide) (fun _ => ?_) rfl (fun _ => ?_)
  · skip
    refine r_lload_n (pc' := 12) hx (hd 7) rfl 0 rfl rfl ?_
    refine r_iload_n (pc' := 13) hx (hd 8) rfl 2 rfl rfl ?_
    refine r_i2l (pc' := 14) hx (hd 9) rfl ?_
    refine r_lcmp_le (tgt := 22) (pc' := 18) hx (hd 10) (hd 11) (by decide) (fun _ => ?_) rfl (fun _ => ?_)
    · skip
      refine r_lload_n (pc' := 23) hx (hd 14) rfl 0 rfl rfl ?_
      refine r_l2i (pc' := 24) hx (hd 15) rfl ?_
      refine r_sub [] rfl ?_
      exact hj3 (p0.toInt32)
    · skip
      refine r_iload_n (pc' := 19) hx (hd 12) rfl 2 rfl rfl ?_
      refine r_goto (tgt := 24) hx (hd 13) (by decide) ?_
      refine r_sub [] rfl ?_
      exact hj3 p3
  · skip
    refine r_iload_n (pc' := 8) hx (hd 5) rfl 1 rfl rfl ?_
    refine r_goto (tgt := 24) hx (hd 6) (by decide) ?_
    refine r_sub [] rfl ?_
    exact hj3 p2
abbrev yX12_valueOf : MethodName := ({ cls := "CribbageRoomModel", name := "valueOf", desc := "(I)I" } : Jvm.MethodName)
def tbX12_valueOf : List (Nat × Instr × Nat) := [(0, .iload_n 1, 1), (1, .invokestatic 447, 3), (4, .bipush 10, 2), (6, .if_icmp .ge 12, 3), (9, .iload_n 1, 1), (10, .invokestatic 447, 3), (13, .iconst 1, 1), (14, .iadd, 1), (15, .goto 5, 3), (18, .bipush 10, 2), (20, .istore_n 2, 1), (21, .aload_n 0, 1), (22, .iconst 0, 1), (23, .iload_n 1, 1), (24, .invokestatic 447, 3), (27, .iload_n 1, 1), (28, .iconst 4, 1), (29, .irem, 1), (30, .iconst (-1), 1), (31, .iconst (-1), 1), (32, .iload_n 2, 1), (33, .i2l, 1), (34, .invokevirtual 450, 3), (37, .iconst 1, 1), (38, .bipush 31, 2), (40, .invokestatic 454, 3), (43, .ireturn, 1)]
theorem dX12_valueOf : ∀ q ∈ tbX12_valueOf, decode prog_14_method_65_code q.1 = .ok q.2 := by decide +kernel
set_option maxRecDepth 20000 in
theorem cX12_valueOf (l : Launch) (w : WX) (hL : Lay w) (t : Nat) (ht : Wat w t 12 0) (p1 : Int32) (M : Mem) : Ct l w yX12_valueOf prog_14_method_65_code 3 (Option.some FieldType.int) 4 103 evIM emM [.ref t, .int p1] M (FX12_valueOf t p1 M) := by
  refine ct_of (by decide) (Nat.le_of_ble_eq_true rfl) (fun x hl hx hb hz => ?_)
  subst hl
  have hd : ∀ i, DAt (xc x).code (tbX12_valueOf[i]?) := fun i => by rw [hb]; exact dat_of dX12_valueOf i
  show C x w (Qn x w evIM emM) 3 0 [(0, .ref t), (1, .int p1)] [] M (FX12_valueOf t p1 M)
  unfold FX12_valueOf
  refine r_iload_n (pc' := 1) hx (hd 0) rfl 1 rfl rfl ?_
  refine r_callS (pc' := 4) (As := [.int p1]) (rest := []) hx (hd 1) md_X12_rankOf mst_X12_rankOf ml_12_447 (cX12_rankOf (xl x) w hL p1 M) ⟨Nat.le_of_ble_eq_true rfl, Nat.le_of_ble_eq_true rfl⟩ rfl rfl (Nat.le_of_ble_eq_true rfl) (fun r1 => .int r1 :: []) (fun _ => M) (fun _ => ⟨rfl, rfl⟩) rfl (fun r1 _ => ?_)
  refine r_bipush (pc' := 6) (v := 10) hx (hd 2) (by decide) rfl ?_
  refine r_jn1 20 (fun v2 => [(0, .ref t), (1, .int p1)]) (fun v2 => [.int v2]) (fun v2 => M) (fun v2 => ?_) (fun j3 hj4 => ?_)
  · skip
    refine r_istore_n (pc' := 21) (L' := [(2, .int v2), (0, .ref t), (1, .int p1)]) hx (hd 10) rfl (by decide) rfl rfl ?_
    refine r_aload_n (pc' := 22) hx (hd 11) rfl 1 rfl rfl ?_
    refine r_iconst (pc' := 23) (v := 0) hx (hd 12) (by decide) rfl ?_
    refine r_iload_n (pc' := 24) hx (hd 13) rfl 2 rfl rfl ?_
    refine r_callS (pc' := 27) (As := [.int p1]) (rest := [.int 0, .ref t]) hx (hd 14) md_X12_rankOf mst_X12_rankOf ml_12_447 (cX12_rankOf (xl x) w hL p1 M) ⟨Nat.le_of_ble_eq_true rfl, Nat.le_of_ble_eq_true rfl⟩ rfl rfl (Nat.le_of_ble_eq_true rfl) (fun r5 => .int r5 :: [.int 0, .ref t]) (fun _ => M) (fun _ => ⟨rfl, rfl⟩) rfl (fun r5 _ => ?_)
    refine r_iload_n (pc' := 28) hx (hd 15) rfl 2 rfl rfl ?_
    refine r_iconst (pc' := 29) (v := 4) hx (hd 16) (by decide) rfl ?_
    refine r_irem (pc' := 30) hx (hd 17) (by decide) rfl ?_
    refine r_iconst (pc' := 31) (v := (-1)) hx (hd 18) (by decide) rfl ?_
    refine r_iconst (pc' := 32) (v := (-1)) hx (hd 19) (by decide) rfl ?_
    refine r_iload_n (pc' := 33) hx (hd 20) rfl 0 rfl rfl ?_
    refine r_i2l (pc' := 34) hx (hd 21) rfl ?_
    refine r_callVJ (pc' := 37) (As := [.int 0, .int r5, .int (irm p1 4), .int (-1), .int (-1), .long v2.toInt64]) (rest := []) hx (hd 22) md_X12_tells mi_X12_tells ms_X12_tells ml_12_450 (cX12_tells (xl x) w hL t ht 0 r5 (irm p1 4) (-1) (-1) (v2.toInt64) M) ht rfl (by decide) ⟨Nat.le_of_ble_eq_true rfl, Nat.le_of_ble_eq_true rfl⟩ rfl rfl (Nat.le_of_ble_eq_true rfl) (fun r7 => .long r7 :: []) (fun _ => rfl) rfl (fun r7 M6 => ?_)
    refine r_iconst (pc' := 38) (v := 1) hx (hd 23) (by decide) rfl ?_
    refine r_bipush (pc' := 40) (v := 31) hx (hd 24) (by decide) rfl ?_
    refine r_callS (pc' := 43) (As := [.long r7, .int 1, .int 31]) (rest := []) hx (hd 25) md_X12_bounded mst_X12_bounded ml_12_454 (cX12_bounded (xl x) w hL r7 1 31 M6) ⟨Nat.le_of_ble_eq_true rfl, Nat.le_of_ble_eq_true rfl⟩ rfl rfl (Nat.le_of_ble_eq_true rfl) (fun r8 => .int r8 :: []) (fun _ => M6) (fun _ => ⟨rfl, rfl⟩) rfl (fun r8 _ => ?_)
    exact r_iret hx (hd 26) rfl rfl hz
  refine r_icmp_ge (tgt := 18) (pc' := 9) hx (hd 3) (by decide) (fun _ => ?_) rfl (fun _ => ?_)
  · skip
    refine r_bipush (pc' := 20) (v := 10) hx (hd 9) (by decide) rfl ?_
    exact hj4 10
  · skip
    refine r_iload_n (pc' := 10) hx (hd 4) rfl 1 rfl rfl ?_
    refine r_callS (pc' := 13) (As := [.int p1]) (rest := []) hx (hd 5) md_X12_rankOf mst_X12_rankOf ml_12_447 (cX12_rankOf (xl x) w hL p1 M) ⟨Nat.le_of_ble_eq_true rfl, Nat.le_of_ble_eq_true rfl⟩ rfl rfl (Nat.le_of_ble_eq_true rfl) (fun r9 => .int r9 :: []) (fun _ => M) (fun _ => ⟨rfl, rfl⟩) rfl (fun r9 _ => ?_)
    refine r_iconst (pc' := 14) (v := 1) hx (hd 6) (by decide) rfl ?_
    refine r_iadd (pc' := 15) hx (hd 7) rfl ?_
    refine r_goto (tgt := 20) hx (hd 8) (by decide) ?_
    exact hj4 (r9 + 1)
abbrev yX12_isBarred : MethodName := ({ cls := "CribbageRoomModel", name := "isBarred", desc := "(I)Z" } : Jvm.MethodName)
def tbX12_isBarred : List (Nat × Instr × Nat) := [(0, .aload_n 0, 1), (1, .bipush 6, 2), (3, .iload_n 1, 1), (4, .invokestatic 447, 3), (7, .iload_n 1, 1), (8, .iconst 4, 1), (9, .irem, 1), (10, .iconst (-1), 1), (11, .iconst (-1), 1), (12, .lconst 0, 1), (13, .invokevirtual 450, 3), (16, .lconst 1, 1), (17, .lcmp, 1), (18, .ifCond .ne 7, 3), (21, .iconst 1, 1), (22, .goto 4, 3), (25, .iconst 0, 1), (26, .ireturn, 1)]
theorem dX12_isBarred : ∀ q ∈ tbX12_isBarred, decode prog_14_method_66_code q.1 = .ok q.2 := by decide +kernel
set_option maxRecDepth 20000 in
theorem cX12_isBarred (l : Launch) (w : WX) (hL : Lay w) (t : Nat) (ht : Wat w t 12 0) (p1 : Int32) (M : Mem) : Ct l w yX12_isBarred prog_14_method_66_code 2 (Option.some FieldType.boolean) 4 103 evIM emM [.ref t, .int p1] M (FX12_isBarred t p1 M) := by
  refine ct_of (by decide) (Nat.le_of_ble_eq_true rfl) (fun x hl hx hb hz => ?_)
  subst hl
  have hd : ∀ i, DAt (xc x).code (tbX12_isBarred[i]?) := fun i => by rw [hb]; exact dat_of dX12_isBarred i
  show C x w (Qn x w evIM emM) 2 0 [(0, .ref t), (1, .int p1)] [] M (FX12_isBarred t p1 M)
  unfold FX12_isBarred
  refine r_aload_n (pc' := 1) hx (hd 0) rfl 0 rfl rfl ?_
  refine r_bipush (pc' := 3) (v := 6) hx (hd 1) (by decide) rfl ?_
  refine r_iload_n (pc' := 4) hx (hd 2) rfl 1 rfl rfl ?_
  refine r_callS (pc' := 7) (As := [.int p1]) (rest := [.int 6, .ref t]) hx (hd 3) md_X12_rankOf mst_X12_rankOf ml_12_447 (cX12_rankOf (xl x) w hL p1 M) ⟨Nat.le_of_ble_eq_true rfl, Nat.le_of_ble_eq_true rfl⟩ rfl rfl (Nat.le_of_ble_eq_true rfl) (fun r1 => .int r1 :: [.int 6, .ref t]) (fun _ => M) (fun _ => ⟨rfl, rfl⟩) rfl (fun r1 _ => ?_)
  refine r_iload_n (pc' := 8) hx (hd 4) rfl 1 rfl rfl ?_
  refine r_iconst (pc' := 9) (v := 4) hx (hd 5) (by decide) rfl ?_
  refine r_irem (pc' := 10) hx (hd 6) (by decide) rfl ?_
  refine r_iconst (pc' := 11) (v := (-1)) hx (hd 7) (by decide) rfl ?_
  refine r_iconst (pc' := 12) (v := (-1)) hx (hd 8) (by decide) rfl ?_
  refine r_lconst (pc' := 13) (v := 0) hx (hd 9) (by decide) rfl ?_
  refine r_callVJ (pc' := 16) (As := [.int 6, .int r1, .int (irm p1 4), .int (-1), .int (-1), .long 0]) (rest := []) hx (hd 10) md_X12_tells mi_X12_tells ms_X12_tells ml_12_450 (cX12_tells (xl x) w hL t ht 6 r1 (irm p1 4) (-1) (-1) 0 M) ht rfl (by decide) ⟨Nat.le_of_ble_eq_true rfl, Nat.le_of_ble_eq_true rfl⟩ rfl rfl (Nat.le_of_ble_eq_true rfl) (fun r3 => .long r3 :: []) (fun _ => rfl) rfl (fun r3 M2 => ?_)
  refine r_lconst (pc' := 17) (v := 1) hx (hd 11) (by decide) rfl ?_
  refine r_jn1 26 (fun v4 => []) (fun v4 => [.int v4]) (fun v4 => M2) (fun v4 => ?_) (fun j5 hj6 => ?_)
  · skip
    refine r_gd (fun h7 => ?_)
    exact r_zret hx (hd 17) h7 rfl rfl hz
  refine r_lcmp_ne (tgt := 25) (pc' := 21) hx (hd 12) (hd 13) (by decide) (fun _ => ?_) rfl (fun _ => ?_)
  · skip
    refine r_iconst (pc' := 26) (v := 0) hx (hd 16) (by decide) rfl ?_
    refine r_sub [] rfl ?_
    exact hj6 0
  · skip
    refine r_iconst (pc' := 22) (v := 1) hx (hd 14) (by decide) rfl ?_
    refine r_goto (tgt := 26) hx (hd 15) (by decide) ?_
    refine r_sub [] rfl ?_
    exact hj6 1
abbrev yX12_card : MethodName := ({ cls := "CribbageRoomModel", name := "card", desc := "(II)I" } : Jvm.MethodName)
def tbX12_card : List (Nat × Instr × Nat) := [(0, .aload_n 0, 1), (1, .iconst 0, 1), (2, .putfield 188, 3), (5, .iload_n 1, 1), (6, .invokestatic 217, 3), (9, .ifCond .ne 5, 3), (12, .iconst (-1), 1), (13, .ireturn, 1), (14, .iload_n 2, 1), (15, .tableswitch 84 0 4 #[33, 39, 53, 63, 73], 33), (48, .aload_n 0, 1), (49, .iload_n 1, 1), (50, .invokevirtual 221, 3), (53, .ireturn, 1), (54, .aload_n 0, 1), (55, .iload_n 1, 1), (56, .invokevirtual 224, 3), (59, .ifCond .eq 7, 3), (62, .iconst 1, 1), (63, .goto 4, 3), (66, .iconst 0, 1), (67, .ireturn, 1), (68, .aload_n 0, 1), (69, .getfield 13, 3), (72, .bipush 18, 2), (74, .iload_n 1, 1), (75, .iadd, 1), (76, .iaload, 1), (77, .ireturn, 1), (78, .aload_n 0, 1), (79, .getfield 13, 3), (82, .bipush 70, 2), (84, .iload_n 1, 1), (85, .iadd, 1), (86, .iaload, 1), (87, .ireturn, 1), (88, .aload_n 0, 1), (89, .getfield 13, 3), (92, .sipush 130, 3), (95, .iload_n 1, 1), (96, .iadd, 1), (97, .iaload, 1), (98, .ireturn, 1), (99, .iconst (-1), 1), (100, .ireturn, 1)]
theorem dX12_card : ∀ q ∈ tbX12_card, decode prog_14_method_22_code q.1 = .ok q.2 := by decide +kernel
set_option maxRecDepth 20000 in
theorem cX12_card (l : Launch) (w : WX) (hL : Lay w) (t : Nat) (ht : Wat w t 12 0) (p1 : Int32) (p2 : Int32) (M : Mem) : Ct l w yX12_card prog_14_method_22_code 3 (Option.some FieldType.int) 5 125 evIM emM [.ref t, .int p1, .int p2] M (FX12_card t p1 p2 M) := by
  refine ct_of (by decide) (Nat.le_of_ble_eq_true rfl) (fun x hl hx hb hz => ?_)
  subst hl
  have hd : ∀ i, DAt (xc x).code (tbX12_card[i]?) := fun i => by rw [hb]; exact dat_of dX12_card i
  show C x w (Qn x w evIM emM) 3 0 [(0, .ref t), (1, .int p1), (2, .int p2)] [] M (FX12_card t p1 p2 M)
  unfold FX12_card
  refine r_aload_n (pc' := 1) hx (hd 0) rfl 0 rfl rfl ?_
  refine r_iconst (pc' := 2) (v := 0) hx (hd 1) (by decide) rfl ?_
  refine r_putI (pc' := 5) hx (hd 2) fp_12_188 ht rfl (by decide) rfl (fun M1 => ?_)
  refine r_iload_n (pc' := 6) hx (hd 3) rfl 1 rfl rfl ?_
  refine r_callS (pc' := 9) (As := [.int p1]) (rest := []) hx (hd 4) md_X12_isCard mst_X12_isCard ml_12_217 (cX12_isCard (xl x) w hL p1 M1) ⟨Nat.le_of_ble_eq_true rfl, Nat.le_of_ble_eq_true rfl⟩ rfl rfl (Nat.le_of_ble_eq_true rfl) (fun r2 => .int r2 :: []) (fun _ => M1) (fun _ => ⟨rfl, rfl⟩) rfl (fun r2 _ => ?_)
  refine r_if_ne (tgt := 14) (pc' := 12) hx (hd 5) (by decide) (fun _ => ?_) rfl (fun _ => ?_)
  · skip
    refine r_iload_n (pc' := 15) hx (hd 8) rfl 2 rfl rfl ?_
    refine r_table (td := 99) [48, 54, 68, 78, 88] hx (hd 9) rfl rfl rfl (by decide) ?_ ?_
    · skip
      refine r_iconst (pc' := 100) (v := (-1)) hx (hd 43) (by decide) rfl ?_
      exact r_iret hx (hd 44) rfl rfl hz
    refine ⟨?_, ?_, ?_, ?_, ?_,  trivial⟩
    · skip
      refine r_aload_n (pc' := 49) hx (hd 10) rfl 0 rfl rfl ?_
      refine r_iload_n (pc' := 50) hx (hd 11) rfl 1 rfl rfl ?_
      refine r_callVI (pc' := 53) (As := [.int p1]) (rest := []) hx (hd 12) md_X12_valueOf mi_X12_valueOf ms_X12_valueOf ml_12_221 (cX12_valueOf (xl x) w hL t ht p1 M1) ht rfl (by decide) ⟨Nat.le_of_ble_eq_true rfl, Nat.le_of_ble_eq_true rfl⟩ rfl rfl (Nat.le_of_ble_eq_true rfl) (fun r4 => .int r4 :: []) (fun _ => rfl) rfl (fun r4 M3 => ?_)
      exact r_iret hx (hd 13) rfl rfl hz
    · skip
      refine r_aload_n (pc' := 55) hx (hd 14) rfl 0 rfl rfl ?_
      refine r_iload_n (pc' := 56) hx (hd 15) rfl 1 rfl rfl ?_
      refine r_callVI (pc' := 59) (As := [.int p1]) (rest := []) hx (hd 16) md_X12_isBarred mi_X12_isBarred ms_X12_isBarred ml_12_224 (cX12_isBarred (xl x) w hL t ht p1 M1) ht rfl (by decide) ⟨Nat.le_of_ble_eq_true rfl, Nat.le_of_ble_eq_true rfl⟩ rfl rfl (Nat.le_of_ble_eq_true rfl) (fun r6 => .int r6 :: []) (fun _ => rfl) rfl (fun r6 M5 => ?_)
      refine r_jn1 67 (fun v7 => []) (fun v7 => [.int v7]) (fun v7 => M5) (fun v7 => ?_) (fun j8 hj9 => ?_)
      · skip
        exact r_iret hx (hd 21) rfl rfl hz
      refine r_if_eq (tgt := 66) (pc' := 62) hx (hd 17) (by decide) (fun _ => ?_) rfl (fun _ => ?_)
      · skip
        refine r_iconst (pc' := 67) (v := 0) hx (hd 20) (by decide) rfl ?_
        refine r_sub [] rfl ?_
        exact hj9 0
      · skip
        refine r_iconst (pc' := 63) (v := 1) hx (hd 18) (by decide) rfl ?_
        refine r_goto (tgt := 67) hx (hd 19) (by decide) ?_
        refine r_sub [] rfl ?_
        exact hj9 1
    · skip
      refine r_aload_n (pc' := 69) hx (hd 22) rfl 0 rfl rfl ?_
      refine r_get (pc' := 72) (v := .ref (t + 2)) hx (hd 23) fl_12_13 ht rfl (by decide) rfl ?_
      have h10 := hL.1 _ _ _ ht 3 2 20 5594 rfl
      refine r_bipush (pc' := 74) (v := 18) hx (hd 24) (by decide) rfl ?_
      refine r_iload_n (pc' := 75) hx (hd 25) rfl 1 rfl rfl ?_
      refine r_iadd (pc' := 76) hx (hd 26) rfl ?_
      refine r_gd (fun h11 => ?_)
      refine r_iald (pc' := 77) (k := ix (18 + p1)) hx (hd 27) h10 h11 rfl rfl ?_
      exact r_iret hx (hd 28) rfl rfl hz
    · skip
      refine r_aload_n (pc' := 79) hx (hd 29) rfl 0 rfl rfl ?_
      refine r_get (pc' := 82) (v := .ref (t + 2)) hx (hd 30) fl_12_13 ht rfl (by decide) rfl ?_
      have h12 := hL.1 _ _ _ ht 3 2 20 5594 rfl
      refine r_bipush (pc' := 84) (v := 70) hx (hd 31) (by decide) rfl ?_
      refine r_iload_n (pc' := 85) hx (hd 32) rfl 1 rfl rfl ?_
      refine r_iadd (pc' := 86) hx (hd 33) rfl ?_
      refine r_gd (fun h13 => ?_)
      refine r_iald (pc' := 87) (k := ix (70 + p1)) hx (hd 34) h12 h13 rfl rfl ?_
      exact r_iret hx (hd 35) rfl rfl hz
    · skip
      refine r_aload_n (pc' := 89) hx (hd 36) rfl 0 rfl rfl ?_
      refine r_get (pc' := 92) (v := .ref (t + 2)) hx (hd 37) fl_12_13 ht rfl (by decide) rfl ?_
      have h14 := hL.1 _ _ _ ht 3 2 20 5594 rfl
      refine r_sipush (pc' := 95) (v := 130) hx (hd 38) (by decide) rfl ?_
      refine r_iload_n (pc' := 96) hx (hd 39) rfl 1 rfl rfl ?_
      refine r_iadd (pc' := 97) hx (hd 40) rfl ?_
      refine r_gd (fun h15 => ?_)
      refine r_iald (pc' := 98) (k := ix (130 + p1)) hx (hd 41) h14 h15 rfl rfl ?_
      exact r_iret hx (hd 42) rfl rfl hz
  · skip
    refine r_iconst (pc' := 13) (v := (-1)) hx (hd 6) (by decide) rfl ?_
    exact r_iret hx (hd 7) rfl rfl hz
abbrev yX12_isPlayer : MethodName := ({ cls := "CribbageRoomModel", name := "isPlayer", desc := "(I)Z" } : Jvm.MethodName)
def tbX12_isPlayer : List (Nat × Instr × Nat) := [(0, .iload_n 0, 1), (1, .i2l, 1), (2, .lconst 0, 1), (3, .lconst 1, 1), (4, .invokestatic 208, 3), (7, .ireturn, 1)]
theorem dX12_isPlayer : ∀ q ∈ tbX12_isPlayer, decode prog_14_method_16_code q.1 = .ok q.2 := by decide +kernel
set_option maxRecDepth 20000 in
theorem cX12_isPlayer (l : Launch) (w : WX) (hL : Lay w) (p0 : Int32) (M : Mem) : Ct l w yX12_isPlayer prog_14_method_16_code 1 (Option.some FieldType.boolean) 1 25 evI (emC M) [.int p0] M (FX12_isPlayer p0) := by
  refine ct_of (by decide) (Nat.le_of_ble_eq_true rfl) (fun x hl hx hb hz => ?_)
  subst hl
  have hd : ∀ i, DAt (xc x).code (tbX12_isPlayer[i]?) := fun i => by rw [hb]; exact dat_of dX12_isPlayer i
  show C x w (Qn x w evI (emC M)) 1 0 [(0, .int p0)] [] M (FX12_isPlayer p0)
  unfold FX12_isPlayer
  refine r_iload_n (pc' := 1) hx (hd 0) rfl 0 rfl rfl ?_
  refine r_i2l (pc' := 2) hx (hd 1) rfl ?_
  refine r_lconst (pc' := 3) (v := 0) hx (hd 2) (by decide) rfl ?_
  refine r_lconst (pc' := 4) (v := 1) hx (hd 3) (by decide) rfl ?_
  refine r_callS (pc' := 7) (As := [.long p0.toInt64, .long 0, .long 1]) (rest := []) hx (hd 4) md_X12_in mst_X12_in ml_12_208 (cX12_in (xl x) w hL (p0.toInt64) 0 1 M) ⟨Nat.le_of_ble_eq_true rfl, Nat.le_of_ble_eq_true rfl⟩ rfl rfl (Nat.le_of_ble_eq_true rfl) (fun r1 => .int r1 :: []) (fun _ => M) (fun _ => ⟨rfl, rfl⟩) rfl (fun r1 _ => ?_)
  refine r_gd (fun h2 => ?_)
  exact r_zret hx (hd 5) h2 rfl rfl hz
abbrev yX12_cardsAt : MethodName := ({ cls := "CribbageRoomModel", name := "cardsAt", desc := "(I)I" } : Jvm.MethodName)
def tbX12_cardsAt : List (Nat × Instr × Nat) := [(0, .iconst 0, 1), (1, .istore_n 2, 1), (2, .iconst 0, 1), (3, .istore_n 3, 1), (4, .iload_n 3, 1), (5, .bipush 52, 2), (7, .if_icmp .ge 30, 3), (10, .iload_n 2, 1), (11, .aload_n 0, 1), (12, .getfield 13, 3), (15, .bipush 18, 2), (17, .iload_n 3, 1), (18, .iadd, 1), (19, .iaload, 1), (20, .iload_n 1, 1), (21, .if_icmp .ne 7, 3), (24, .iconst 1, 1), (25, .goto 4, 3), (28, .iconst 0, 1), (29, .iadd, 1), (30, .istore_n 2, 1), (31, .iinc 3 1, 3), (34, .goto (-30), 3), (37, .iload_n 2, 1), (38, .ireturn, 1)]
theorem dX12_cardsAt : ∀ q ∈ tbX12_cardsAt, decode prog_14_method_18_code q.1 = .ok q.2 := by decide +kernel
set_option maxRecDepth 20000 in
theorem cX12_cardsAt (l : Launch) (w : WX) (hL : Lay w) (t : Nat) (ht : Wat w t 12 0) (p1 : Int32) (M : Mem) : Ct l w yX12_cardsAt prog_14_method_18_code 4 (Option.some FieldType.int) 0 0 evI (emC M) [.ref t, .int p1] M (FX12_cardsAt t p1 M) := by
  refine ct_of (by decide) (Nat.le_of_ble_eq_true rfl) (fun x hl hx hb hz => ?_)
  subst hl
  have hd : ∀ i, DAt (xc x).code (tbX12_cardsAt[i]?) := fun i => by rw [hb]; exact dat_of dX12_cardsAt i
  show C x w (Qn x w evI (emC M)) 4 0 [(0, .ref t), (1, .int p1)] [] M (FX12_cardsAt t p1 M)
  unfold FX12_cardsAt
  refine r_iconst (pc' := 1) (v := 0) hx (hd 0) (by decide) rfl ?_
  refine r_istore_n (pc' := 2) (L' := [(2, .int 0), (0, .ref t), (1, .int p1)]) hx (hd 1) rfl (by decide) rfl rfl ?_
  refine r_iconst (pc' := 3) (v := 0) hx (hd 2) (by decide) rfl ?_
  refine r_istore_n (pc' := 4) (L' := [(3, .int 0), (2, .int 0), (0, .ref t), (1, .int p1)]) hx (hd 3) rfl (by decide) rfl rfl ?_
  refine r_sub [2, 3, 1, 0] rfl ?_
  refine r_wl2 (fun v1 v2 => [(0, .ref t), (1, .int p1), (2, .int v1), (3, .int v2)]) (fun v1 v2 => []) (fun v1 v2 => M) (fun v1 v2 rec3 ih4 => ?_) fuel 0 0
  refine r_iload_n (pc' := 5) hx (hd 4) rfl 3 rfl rfl ?_
  refine r_bipush (pc' := 7) (v := 52) hx (hd 5) (by decide) rfl ?_
  refine r_icmp_ge (tgt := 37) (pc' := 10) hx (hd 6) (by decide) (fun _ => ?_) rfl (fun _ => ?_)
  · skip
    refine r_iload_n (pc' := 38) hx (hd 23) rfl 2 rfl rfl ?_
    exact r_iret hx (hd 24) rfl rfl hz
  · skip
    refine r_iload_n (pc' := 11) hx (hd 7) rfl 2 rfl rfl ?_
    refine r_aload_n (pc' := 12) hx (hd 8) rfl 0 rfl rfl ?_
    refine r_get (pc' := 15) (v := .ref (t + 2)) hx (hd 9) fl_12_13 ht rfl (by decide) rfl ?_
    have h5 := hL.1 _ _ _ ht 3 2 20 5594 rfl
    refine r_bipush (pc' := 17) (v := 18) hx (hd 10) (by decide) rfl ?_
    refine r_iload_n (pc' := 18) hx (hd 11) rfl 3 rfl rfl ?_
    refine r_iadd (pc' := 19) hx (hd 12) rfl ?_
    refine r_gd (fun h6 => ?_)
    refine r_iald (pc' := 20) (k := ix (18 + v2)) hx (hd 13) h5 h6 rfl rfl ?_
    refine r_iload_n (pc' := 21) hx (hd 14) rfl 1 rfl rfl ?_
    refine r_jn1 29 (fun v7 => [(0, .ref t), (1, .int p1), (3, .int v2)]) (fun v7 => [.int v7, .int v1]) (fun v7 => M) (fun v7 => ?_) (fun j8 hj9 => ?_)
    · skip
      refine r_iadd (pc' := 30) hx (hd 19) rfl ?_
      refine r_nmI (fun v10 => ?_)
      refine r_istore_n (pc' := 31) (L' := [(2, .int v10), (0, .ref t), (1, .int p1), (3, .int v2)]) hx (hd 20) rfl (by decide) rfl rfl ?_
      refine r_iinc (pc' := 34) (v := 1) hx (hd 21) 3 rfl (by decide) (by decide) (fun v11 => [(3, .int v11), (2, .int v10), (0, .ref t), (1, .int p1)]) (fun _ => rfl) rfl (fun v11 => ?_)
      refine r_goto (tgt := 4) hx (hd 22) (by decide) ?_
      refine r_sub [2, 3, 1, 0] rfl ?_
      exact ih4 v10 v11
    refine r_icmp_ne (tgt := 28) (pc' := 24) hx (hd 15) (by decide) (fun _ => ?_) rfl (fun _ => ?_)
    · skip
      refine r_iconst (pc' := 29) (v := 0) hx (hd 18) (by decide) rfl ?_
      refine r_sub [0, 1, 3] rfl ?_
      exact hj9 0
    · skip
      refine r_iconst (pc' := 25) (v := 1) hx (hd 16) (by decide) rfl ?_
      refine r_goto (tgt := 29) hx (hd 17) (by decide) ?_
      refine r_sub [0, 1, 3] rfl ?_
      exact hj9 1
abbrev yX12_unplayed : MethodName := ({ cls := "CribbageRoomModel", name := "unplayed", desc := "(I)I" } : Jvm.MethodName)
def tbX12_unplayed : List (Nat × Instr × Nat) := [(0, .iconst 0, 1), (1, .istore_n 2, 1), (2, .iconst 0, 1), (3, .istore_n 3, 1), (4, .iload_n 3, 1), (5, .bipush 52, 2), (7, .if_icmp .ge 42, 3), (10, .iload_n 2, 1), (11, .aload_n 0, 1), (12, .getfield 13, 3), (15, .bipush 18, 2), (17, .iload_n 3, 1), (18, .iadd, 1), (19, .iaload, 1), (20, .iload_n 1, 1), (21, .if_icmp .ne 19, 3), (24, .aload_n 0, 1), (25, .getfield 13, 3), (28, .bipush 70, 2), (30, .iload_n 3, 1), (31, .iadd, 1), (32, .iaload, 1), (33, .ifCond .ne 7, 3), (36, .iconst 1, 1), (37, .goto 4, 3), (40, .iconst 0, 1), (41, .iadd, 1), (42, .istore_n 2, 1), (43, .iinc 3 1, 3), (46, .goto (-42), 3), (49, .iload_n 2, 1), (50, .ireturn, 1)]
theorem dX12_unplayed : ∀ q ∈ tbX12_unplayed, decode prog_14_method_23_code q.1 = .ok q.2 := by decide +kernel
set_option maxRecDepth 20000 in
theorem cX12_unplayed (l : Launch) (w : WX) (hL : Lay w) (t : Nat) (ht : Wat w t 12 0) (p1 : Int32) (M : Mem) : Ct l w yX12_unplayed prog_14_method_23_code 4 (Option.some FieldType.int) 0 0 evI (emC M) [.ref t, .int p1] M (FX12_unplayed t p1 M) := by
  refine ct_of (by decide) (Nat.le_of_ble_eq_true rfl) (fun x hl hx hb hz => ?_)
  subst hl
  have hd : ∀ i, DAt (xc x).code (tbX12_unplayed[i]?) := fun i => by rw [hb]; exact dat_of dX12_unplayed i
  show C x w (Qn x w evI (emC M)) 4 0 [(0, .ref t), (1, .int p1)] [] M (FX12_unplayed t p1 M)
  unfold FX12_unplayed
  refine r_iconst (pc' := 1) (v := 0) hx (hd 0) (by decide) rfl ?_
  refine r_istore_n (pc' := 2) (L' := [(2, .int 0), (0, .ref t), (1, .int p1)]) hx (hd 1) rfl (by decide) rfl rfl ?_
  refine r_iconst (pc' := 3) (v := 0) hx (hd 2) (by decide) rfl ?_
  refine r_istore_n (pc' := 4) (L' := [(3, .int 0), (2, .int 0), (0, .ref t), (1, .int p1)]) hx (hd 3) rfl (by decide) rfl rfl ?_
  refine r_sub [2, 3, 1, 0] rfl ?_
  refine r_wl2 (fun v1 v2 => [(0, .ref t), (1, .int p1), (2, .int v1), (3, .int v2)]) (fun v1 v2 => []) (fun v1 v2 => M) (fun v1 v2 rec3 ih4 => ?_) fuel 0 0
  refine r_iload_n (pc' := 5) hx (hd 4) rfl 3 rfl rfl ?_
  refine r_bipush (pc' := 7) (v := 52) hx (hd 5) (by decide) rfl ?_
  refine r_icmp_ge (tgt := 49) (pc' := 10) hx (hd 6) (by decide) (fun _ => ?_) rfl (fun _ => ?_)
  · skip
    refine r_iload_n (pc' := 50) hx (hd 30) rfl 2 rfl rfl ?_
    exact r_iret hx (hd 31) rfl rfl hz
  · skip
    refine r_iload_n (pc' := 11) hx (hd 7) rfl 2 rfl rfl ?_
    refine r_aload_n (pc' := 12) hx (hd 8) rfl 0 rfl rfl ?_
    refine r_get (pc' := 15) (v := .ref (t + 2)) hx (hd 9) fl_12_13 ht rfl (by decide) rfl ?_
    have h5 := hL.1 _ _ _ ht 3 2 20 5594 rfl
    refine r_bipush (pc' := 17) (v := 18) hx (hd 10) (by decide) rfl ?_
    refine r_iload_n (pc' := 18) hx (hd 11) rfl 3 rfl rfl ?_
    refine r_iadd (pc' := 19) hx (hd 12) rfl ?_
    refine r_gd (fun h6 => ?_)
    refine r_iald (pc' := 20) (k := ix (18 + v2)) hx (hd 13) h5 h6 rfl rfl ?_
    refine r_iload_n (pc' := 21) hx (hd 14) rfl 1 rfl rfl ?_
    refine r_jn1 41 (fun v7 => [(0, .ref t), (1, .int p1), (3, .int v2)]) (fun v7 => [.int v7, .int v1]) (fun v7 => M) (fun v7 => ?_) (fun j8 hj9 => ?_)
    · skip
      refine r_iadd (pc' := 42) hx (hd 26) rfl ?_
      refine r_nmI (fun v10 => ?_)
      refine r_istore_n (pc' := 43) (L' := [(2, .int v10), (0, .ref t), (1, .int p1), (3, .int v2)]) hx (hd 27) rfl (by decide) rfl rfl ?_
      refine r_iinc (pc' := 46) (v := 1) hx (hd 28) 3 rfl (by decide) (by decide) (fun v11 => [(3, .int v11), (2, .int v10), (0, .ref t), (1, .int p1)]) (fun _ => rfl) rfl (fun v11 => ?_)
      refine r_goto (tgt := 4) hx (hd 29) (by decide) ?_
      refine r_sub [2, 3, 1, 0] rfl ?_
      exact ih4 v10 v11
    refine r_jn0 40 ([(0, .ref t), (1, .int p1), (3, .int v2)]) ([.int v1]) (M) (?_) (fun j12 hj13 => ?_)
    · skip
      refine r_iconst (pc' := 41) (v := 0) hx (hd 25) (by decide) rfl ?_
      exact hj9 0
    refine r_icmp_ne (tgt := 40) (pc' := 24) hx (hd 15) (by decide) (fun _ => ?_) rfl (fun _ => ?_)
    · skip
      refine r_sub [0, 1, 3] rfl ?_
      exact hj13
    · skip
      refine r_aload_n (pc' := 25) hx (hd 16) rfl 0 rfl rfl ?_
      refine r_get (pc' := 28) (v := .ref (t + 2)) hx (hd 17) fl_12_13 ht rfl (by decide) rfl ?_
      have h14 := hL.1 _ _ _ ht 3 2 20 5594 rfl
      refine r_bipush (pc' := 30) (v := 70) hx (hd 18) (by decide) rfl ?_
      refine r_iload_n (pc' := 31) hx (hd 19) rfl 3 rfl rfl ?_
      refine r_iadd (pc' := 32) hx (hd 20) rfl ?_
      refine r_gd (fun h15 => ?_)
      refine r_iald (pc' := 33) (k := ix (70 + v2)) hx (hd 21) h14 h15 rfl rfl ?_
      refine r_if_ne (tgt := 40) (pc' := 36) hx (hd 22) (by decide) (fun _ => ?_) rfl (fun _ => ?_)
      · skip
        refine r_sub [0, 1, 3] rfl ?_
        exact hj13
      · skip
        refine r_iconst (pc' := 37) (v := 1) hx (hd 23) (by decide) rfl ?_
        refine r_goto (tgt := 41) hx (hd 24) (by decide) ?_
        refine r_sub [0, 1, 3] rfl ?_
        exact hj9 1
abbrev yX12_hand : MethodName := ({ cls := "CribbageRoomModel", name := "hand", desc := "(II)I" } : Jvm.MethodName)
def tbX12_hand : List (Nat × Instr × Nat) := [(0, .aload_n 0, 1), (1, .iconst 0, 1), (2, .putfield 188, 3), (5, .iload_n 1, 1), (6, .invokestatic 227, 3), (9, .ifCond .eq 15, 3), (12, .iload_n 2, 1), (13, .i2l, 1), (14, .lconst 0, 1), (15, .ldc2_w 230, 3), (18, .invokestatic 208, 3), (21, .ifCond .ne 5, 3), (24, .iconst (-1), 1), (25, .ireturn, 1), (26, .iload_n 2, 1), (27, .lookupswitch 55 #[(0, 33), (7, 39), (8, 49)], 33), (60, .aload_n 0, 1), (61, .iload_n 1, 1), (62, .invokevirtual 232, 3), (65, .ireturn, 1), (66, .aload_n 0, 1), (67, .getfield 13, 3), (70, .bipush 16, 2), (72, .iload_n 1, 1), (73, .iadd, 1), (74, .iaload, 1), (75, .ireturn, 1), (76, .aload_n 0, 1), (77, .iload_n 1, 1), (78, .invokevirtual 235, 3), (81, .ireturn, 1), (82, .aload_n 0, 1), (83, .iload_n 1, 1), (84, .iload_n 2, 1), (85, .iconst 1, 1), (86, .isub, 1), (87, .invokevirtual 238, 3), (90, .ireturn, 1)]
theorem dX12_hand : ∀ q ∈ tbX12_hand, decode prog_14_method_24_code q.1 = .ok q.2 := by decide +kernel
set_option maxRecDepth 20000 in
theorem cX12_hand (l : Launch) (w : WX) (hL : Lay w) (t : Nat) (ht : Wat w t 12 0) (p1 : Int32) (p2 : Int32) (M : Mem) : Ct l w yX12_hand prog_14_method_24_code 3 (Option.some FieldType.int) 2 45 evIM emM [.ref t, .int p1, .int p2] M (FX12_hand t p1 p2 M) := by
  refine ct_of (by decide) (Nat.le_of_ble_eq_true rfl) (fun x hl hx hb hz => ?_)
  subst hl
  have hd : ∀ i, DAt (xc x).code (tbX12_hand[i]?) := fun i => by rw [hb]; exact dat_of dX12_hand i
  show C x w (Qn x w evIM emM) 3 0 [(0, .ref t), (1, .int p1), (2, .int p2)] [] M (FX12_hand t p1 p2 M)
  unfold FX12_hand
  refine r_aload_n (pc' := 1) hx (hd 0) rfl 0 rfl rfl ?_
  refine r_iconst (pc' := 2) (v := 0) hx (hd 1) (by decide) rfl ?_
  refine r_putI (pc' := 5) hx (hd 2) fp_12_188 ht rfl (by decide) rfl (fun M1 => ?_)
  refine r_iload_n (pc' := 6) hx (hd 3) rfl 1 rfl rfl ?_
  refine r_callS (pc' := 9) (As := [.int p1]) (rest := []) hx (hd 4) md_X12_isPlayer mst_X12_isPlayer ml_12_227 (cX12_isPlayer (xl x) w hL p1 M1) ⟨Nat.le_of_ble_eq_true rfl, Nat.le_of_ble_eq_true rfl⟩ rfl rfl (Nat.le_of_ble_eq_true rfl) (fun r2 => .int r2 :: []) (fun _ => M1) (fun _ => ⟨rfl, rfl⟩) rfl (fun r2 _ => ?_)
  refine r_jn0 24 ([]) ([]) (M1) (?_) (fun j3 hj4 => ?_)
  · skip
    refine r_iconst (pc' := 25) (v := (-1)) hx (hd 12) (by decide) rfl ?_
    exact r_iret hx (hd 13) rfl rfl hz
  refine r_if_eq (tgt := 24) (pc' := 12) hx (hd 5) (by decide) (fun _ => ?_) rfl (fun _ => ?_)
  · skip
    refine r_sub [] rfl ?_
    exact hj4
  · skip
    refine r_iload_n (pc' := 13) hx (hd 6) rfl 2 rfl rfl ?_
    refine r_i2l (pc' := 14) hx (hd 7) rfl ?_
    refine r_lconst (pc' := 15) (v := 0) hx (hd 8) (by decide) rfl ?_
    refine r_ldc2 (pc' := 18) hx (hd 9) kc_12_230 rfl ?_
    refine r_callS (pc' := 21) (As := [.long p2.toInt64, .long 0, .long 8]) (rest := []) hx (hd 10) md_X12_in mst_X12_in ml_12_208 (cX12_in (xl x) w hL (p2.toInt64) 0 8 M1) ⟨Nat.le_of_ble_eq_true rfl, Nat.le_of_ble_eq_true rfl⟩ rfl rfl (Nat.le_of_ble_eq_true rfl) (fun r5 => .int r5 :: []) (fun _ => M1) (fun _ => ⟨rfl, rfl⟩) rfl (fun r5 _ => ?_)
    refine r_if_ne (tgt := 26) (pc' := 24) hx (hd 11) (by decide) (fun _ => ?_) rfl (fun _ => ?_)
    · skip
      refine r_iload_n (pc' := 27) hx (hd 14) rfl 2 rfl rfl ?_
      refine r_lookup (td := 82) [60, 66, 76] hx (hd 15) rfl ⟨⟨rfl, by decide⟩, ⟨rfl, by decide⟩, ⟨rfl, by decide⟩, trivial⟩ (by decide) ?_ ?_
      · skip
        refine r_aload_n (pc' := 83) hx (hd 31) rfl 0 rfl rfl ?_
        refine r_iload_n (pc' := 84) hx (hd 32) rfl 1 rfl rfl ?_
        refine r_iload_n (pc' := 85) hx (hd 33) rfl 2 rfl rfl ?_
        refine r_iconst (pc' := 86) (v := 1) hx (hd 34) (by decide) rfl ?_
        refine r_isub (pc' := 87) hx (hd 35) rfl ?_
        refine r_callV (pc' := 90) (As := [.int p1, .int (p2 - 1)]) (rest := []) hx (hd 36) md_X12_cardOf mi_X12_cardOf ms_X12_cardOf ml_12_238 (cX12_cardOf (xl x) w hL t ht p1 (p2 - 1) M1) ht rfl (by decide) ⟨Nat.le_of_ble_eq_true rfl, Nat.le_of_ble_eq_true rfl⟩ rfl rfl (Nat.le_of_ble_eq_true rfl) (fun r6 => .int r6 :: []) (fun _ => M1) (fun _ => ⟨rfl, rfl⟩) rfl (fun r6 _ => ?_)
        exact r_iret hx (hd 37) rfl rfl hz
      refine ⟨?_, ?_, ?_,  trivial⟩
      · skip
        refine r_aload_n (pc' := 61) hx (hd 16) rfl 0 rfl rfl ?_
        refine r_iload_n (pc' := 62) hx (hd 17) rfl 1 rfl rfl ?_
        refine r_callV (pc' := 65) (As := [.int p1]) (rest := []) hx (hd 18) md_X12_cardsAt mi_X12_cardsAt ms_X12_cardsAt ml_12_232 (cX12_cardsAt (xl x) w hL t ht p1 M1) ht rfl (by decide) ⟨Nat.le_of_ble_eq_true rfl, Nat.le_of_ble_eq_true rfl⟩ rfl rfl (Nat.le_of_ble_eq_true rfl) (fun r7 => .int r7 :: []) (fun _ => M1) (fun _ => ⟨rfl, rfl⟩) rfl (fun r7 _ => ?_)
        exact r_iret hx (hd 19) rfl rfl hz
      · skip
        refine r_aload_n (pc' := 67) hx (hd 20) rfl 0 rfl rfl ?_
        refine r_get (pc' := 70) (v := .ref (t + 2)) hx (hd 21) fl_12_13 ht rfl (by decide) rfl ?_
        have h8 := hL.1 _ _ _ ht 3 2 20 5594 rfl
        refine r_bipush (pc' := 72) (v := 16) hx (hd 22) (by decide) rfl ?_
        refine r_iload_n (pc' := 73) hx (hd 23) rfl 1 rfl rfl ?_
        refine r_iadd (pc' := 74) hx (hd 24) rfl ?_
        refine r_gd (fun h9 => ?_)
        refine r_iald (pc' := 75) (k := ix (16 + p1)) hx (hd 25) h8 h9 rfl rfl ?_
        exact r_iret hx (hd 26) rfl rfl hz
      · skip
        refine r_aload_n (pc' := 77) hx (hd 27) rfl 0 rfl rfl ?_
        refine r_iload_n (pc' := 78) hx (hd 28) rfl 1 rfl rfl ?_
        refine r_callV (pc' := 81) (As := [.int p1]) (rest := []) hx (hd 29) md_X12_unplayed mi_X12_unplayed ms_X12_unplayed ml_12_235 (cX12_unplayed (xl x) w hL t ht p1 M1) ht rfl (by decide) ⟨Nat.le_of_ble_eq_true rfl, Nat.le_of_ble_eq_true rfl⟩ rfl rfl (Nat.le_of_ble_eq_true rfl) (fun r10 => .int r10 :: []) (fun _ => M1) (fun _ => ⟨rfl, rfl⟩) rfl (fun r10 _ => ?_)
        exact r_iret hx (hd 30) rfl rfl hz
    · skip
      refine r_sub [] rfl ?_
      exact hj4
abbrev yX12_change : MethodName := ({ cls := "CribbageRoomModel", name := "change", desc := "(II)I" } : Jvm.MethodName)
def tbX12_change : List (Nat × Instr × Nat) := [(0, .aload_n 0, 1), (1, .getfield 13, 3), (4, .iload_n 1, 1), (5, .iaload, 1), (6, .istore_n 3, 1), (7, .aload_n 0, 1), (8, .getfield 13, 3), (11, .iload_n 1, 1), (12, .iload_n 2, 1), (13, .iastore, 1), (14, .aload_n 0, 1), (15, .iconst 0, 1), (16, .putfield 191, 3), (19, .iload_n 3, 1), (20, .ireturn, 1)]
theorem dX12_change : ∀ q ∈ tbX12_change, decode prog_14_method_7_code q.1 = .ok q.2 := by decide +kernel
set_option maxRecDepth 20000 in
theorem cX12_change (l : Launch) (w : WX) (hL : Lay w) (t : Nat) (ht : Wat w t 12 0) (p1 : Int32) (p2 : Int32) (M : Mem) : Ct l w yX12_change prog_14_method_7_code 4 (Option.some FieldType.int) 0 0 evIM emM [.ref t, .int p1, .int p2] M (FX12_change t p1 p2 M) := by
  refine ct_of (by decide) (Nat.le_of_ble_eq_true rfl) (fun x hl hx hb hz => ?_)
  subst hl
  have hd : ∀ i, DAt (xc x).code (tbX12_change[i]?) := fun i => by rw [hb]; exact dat_of dX12_change i
  show C x w (Qn x w evIM emM) 4 0 [(0, .ref t), (1, .int p1), (2, .int p2)] [] M (FX12_change t p1 p2 M)
  unfold FX12_change
  refine r_aload_n (pc' := 1) hx (hd 0) rfl 0 rfl rfl ?_
  refine r_get (pc' := 4) (v := .ref (t + 2)) hx (hd 1) fl_12_13 ht rfl (by decide) rfl ?_
  have h1 := hL.1 _ _ _ ht 3 2 20 5594 rfl
  refine r_iload_n (pc' := 5) hx (hd 2) rfl 1 rfl rfl ?_
  refine r_gd (fun h2 => ?_)
  refine r_iald (pc' := 6) (k := ix p1) hx (hd 3) h1 h2 rfl rfl ?_
  refine r_nmI (fun v3 => ?_)
  refine r_istore_n (pc' := 7) (L' := [(3, .int v3), (0, .ref t), (1, .int p1), (2, .int p2)]) hx (hd 4) rfl (by decide) rfl rfl ?_
  refine r_aload_n (pc' := 8) hx (hd 5) rfl 1 rfl rfl ?_
  refine r_get (pc' := 11) (v := .ref (t + 2)) hx (hd 6) fl_12_13 ht rfl (by decide) rfl ?_
  have h4 := hL.1 _ _ _ ht 3 2 20 5594 rfl
  refine r_iload_n (pc' := 12) hx (hd 7) rfl 2 rfl rfl ?_
  refine r_iload_n (pc' := 13) hx (hd 8) rfl 3 rfl rfl ?_
  refine r_gd (fun h6 => ?_)
  refine r_iast (pc' := 14) (k := ix p1) hx (hd 9) h4 h6 rfl rfl (fun M5 => ?_)
  refine r_aload_n (pc' := 15) hx (hd 10) rfl 1 rfl rfl ?_
  refine r_iconst (pc' := 16) (v := 0) hx (hd 11) (by decide) rfl ?_
  refine r_putI (pc' := 19) hx (hd 12) fp_12_191 ht rfl (by decide) rfl (fun M7 => ?_)
  refine r_iload_n (pc' := 20) hx (hd 13) rfl 0 rfl rfl ?_
  exact r_iret hx (hd 14) rfl rfl hz
abbrev yX12_terms : MethodName := ({ cls := "CribbageRoomModel", name := "terms", desc := "(II)I" } : Jvm.MethodName)
def tbX12_terms : List (Nat × Instr × Nat) := [(0, .aload_n 0, 1), (1, .iconst 0, 1), (2, .putfield 188, 3), (5, .iload_n 1, 1), (6, .ifCond .ne 15, 3), (9, .iload_n 2, 1), (10, .i2l, 1), (11, .lconst 0, 1), (12, .ldc2_w 242, 3), (15, .invokestatic 208, 3), (18, .goto 61, 3), (21, .iload_n 1, 1), (22, .iconst 1, 1), (23, .if_icmp .ne 15, 3), (26, .iload_n 2, 1), (27, .i2l, 1), (28, .lconst 0, 1), (29, .ldc2_w 244, 3), (32, .invokestatic 208, 3), (35, .goto 44, 3), (38, .iload_n 1, 1), (39, .iconst 2, 1), (40, .if_icmp .ne 15, 3), (43, .iload_n 2, 1), (44, .i2l, 1), (45, .lconst 0, 1), (46, .ldc2_w 246, 3), (49, .invokestatic 208, 3), (52, .goto 27, 3), (55, .iload_n 1, 1), (56, .iconst 3, 1), (57, .if_icmp .ne 21, 3), (60, .iload_n 2, 1), (61, .i2l, 1), (62, .ldc2_w 248, 3), (65, .ldc2_w 250, 3), (68, .invokestatic 208, 3), (71, .ifCond .eq 7, 3), (74, .iconst 1, 1), (75, .goto 4, 3), (78, .iconst 0, 1), (79, .istore_n 3, 1), (80, .iload_n 3, 1), (81, .ifCond .ne 9, 3), (84, .aload_n 0, 1), (85, .iconst (-1), 1), (86, .invokevirtual 197, 3), (89, .ireturn, 1), (90, .aload_n 0, 1), (91, .iconst 0, 1), (92, .putfield 194, 3), (95, .aload_n 0, 1), (96, .iload_n 1, 1), (97, .ifCond .ne 8, 3), (100, .bipush 8, 2), (102, .goto 6, 3), (105, .iconst 4, 1), (106, .iload_n 1, 1), (107, .iadd, 1), (108, .iload_n 2, 1), (109, .invokevirtual 252, 3), (112, .ireturn, 1)]
theorem dX12_terms : ∀ q ∈ tbX12_terms, decode prog_14_method_25_code q.1 = .ok q.2 := by decide +kernel
set_option maxRecDepth 20000 in
theorem cX12_terms (l : Launch) (w : WX) (hL : Lay w) (t : Nat) (ht : Wat w t 12 0) (p1 : Int32) (p2 : Int32) (M : Mem) : Ct l w yX12_terms prog_14_method_25_code 4 (Option.some FieldType.int) 1 25 evIM emM [.ref t, .int p1, .int p2] M (FX12_terms t p1 p2 M) := by
  refine ct_of (by decide) (Nat.le_of_ble_eq_true rfl) (fun x hl hx hb hz => ?_)
  subst hl
  have hd : ∀ i, DAt (xc x).code (tbX12_terms[i]?) := fun i => by rw [hb]; exact dat_of dX12_terms i
  show C x w (Qn x w evIM emM) 4 0 [(0, .ref t), (1, .int p1), (2, .int p2)] [] M (FX12_terms t p1 p2 M)
  unfold FX12_terms
  refine r_aload_n (pc' := 1) hx (hd 0) rfl 0 rfl rfl ?_
  refine r_iconst (pc' := 2) (v := 0) hx (hd 1) (by decide) rfl ?_
  refine r_putI (pc' := 5) hx (hd 2) fp_12_188 ht rfl (by decide) rfl (fun M1 => ?_)
  refine r_iload_n (pc' := 6) hx (hd 3) rfl 1 rfl rfl ?_
  refine r_jn1 79 (fun v2 => [(0, .ref t), (1, .int p1), (2, .int p2)]) (fun v2 => [.int v2]) (fun v2 => M1) (fun v2 => ?_) (fun j3 hj4 => ?_)
  · skip
    refine r_istore_n (pc' := 80) (L' := [(3, .int v2), (0, .ref t), (1, .int p1), (2, .int p2)]) hx (hd 41) rfl (by decide) rfl rfl ?_
    refine r_iload_n (pc' := 81) hx (hd 42) rfl 0 rfl rfl ?_
    refine r_if_ne (tgt := 90) (pc' := 84) hx (hd 43) (by decide) (fun _ => ?_) rfl (fun _ => ?_)
    · skip
      refine r_aload_n (pc' := 91) hx (hd 48) rfl 1 rfl rfl ?_
      refine r_iconst (pc' := 92) (v := 0) hx (hd 49) (by decide) rfl ?_
      refine r_putI (pc' := 95) hx (hd 50) fp_12_194 ht rfl (by decide) rfl (fun M5 => ?_)
      refine r_aload_n (pc' := 96) hx (hd 51) rfl 1 rfl rfl ?_
      refine r_iload_n (pc' := 97) hx (hd 52) rfl 2 rfl rfl ?_
      refine r_jn1 108 (fun v6 => [(2, .int p2)]) (fun v6 => [.int v6, .ref t]) (fun v6 => M5) (fun v6 => ?_) (fun j7 hj8 => ?_)
      · skip
        refine r_iload_n (pc' := 109) hx (hd 59) rfl 0 rfl rfl ?_
        refine r_callVI (pc' := 112) (As := [.int v6, .int p2]) (rest := []) hx (hd 60) md_X12_change mi_X12_change ms_X12_change ml_12_252 (cX12_change (xl x) w hL t ht v6 p2 M5) ht rfl (by decide) ⟨Nat.le_of_ble_eq_true rfl, Nat.le_of_ble_eq_true rfl⟩ rfl rfl (Nat.le_of_ble_eq_true rfl) (fun r10 => .int r10 :: []) (fun _ => rfl) rfl (fun r10 M9 => ?_)
        exact r_iret hx (hd 61) rfl rfl hz
      refine r_if_ne (tgt := 105) (pc' := 100) hx (hd 53) (by decide) (fun _ => ?_) rfl (fun _ => ?_)
      · skip
        refine r_iconst (pc' := 106) (v := 4) hx (hd 56) (by decide) rfl ?_
        refine r_iload_n (pc' := 107) hx (hd 57) rfl 2 rfl rfl ?_
        refine r_iadd (pc' := 108) hx (hd 58) rfl ?_
        refine r_sub [3] rfl ?_
        exact hj8 (4 + p1)
      · skip
        refine r_bipush (pc' := 102) (v := 8) hx (hd 54) (by decide) rfl ?_
        refine r_goto (tgt := 108) hx (hd 55) (by decide) ?_
        refine r_sub [3] rfl ?_
        exact hj8 8
    · skip
      refine r_aload_n (pc' := 85) hx (hd 44) rfl 1 rfl rfl ?_
      refine r_iconst (pc' := 86) (v := (-1)) hx (hd 45) (by decide) rfl ?_
      refine r_callVI (pc' := 89) (As := [.int (-1)]) (rest := []) hx (hd 46) md_X12_tell mi_X12_tell ms_X12_tell ml_12_197 (cX12_tell (xl x) w hL t ht (-1) M1) ht rfl (by decide) ⟨Nat.le_of_ble_eq_true rfl, Nat.le_of_ble_eq_true rfl⟩ rfl rfl (Nat.le_of_ble_eq_true rfl) (fun r12 => .int r12 :: []) (fun _ => rfl) rfl (fun r12 M11 => ?_)
      exact r_iret hx (hd 47) rfl rfl hz
  refine r_if_ne (tgt := 21) (pc' := 9) hx (hd 4) (by decide) (fun _ => ?_) rfl (fun _ => ?_)
  · skip
    refine r_iload_n (pc' := 22) hx (hd 11) rfl 1 rfl rfl ?_
    refine r_iconst (pc' := 23) (v := 1) hx (hd 12) (by decide) rfl ?_
    refine r_icmp_ne (tgt := 38) (pc' := 26) hx (hd 13) (by decide) (fun _ => ?_) rfl (fun _ => ?_)
    · skip
      refine r_iload_n (pc' := 39) hx (hd 20) rfl 1 rfl rfl ?_
      refine r_iconst (pc' := 40) (v := 2) hx (hd 21) (by decide) rfl ?_
      refine r_icmp_ne (tgt := 55) (pc' := 43) hx (hd 22) (by decide) (fun _ => ?_) rfl (fun _ => ?_)
      · skip
        refine r_iload_n (pc' := 56) hx (hd 29) rfl 1 rfl rfl ?_
        refine r_iconst (pc' := 57) (v := 3) hx (hd 30) (by decide) rfl ?_
        refine r_jn0 78 ([(0, .ref t), (1, .int p1), (2, .int p2)]) ([]) (M1) (?_) (fun j13 hj14 => ?_)
        · skip
          refine r_iconst (pc' := 79) (v := 0) hx (hd 40) (by decide) rfl ?_
          exact hj4 0
        refine r_icmp_ne (tgt := 78) (pc' := 60) hx (hd 31) (by decide) (fun _ => ?_) rfl (fun _ => ?_)
        · skip
          exact hj14
        · skip
          refine r_iload_n (pc' := 61) hx (hd 32) rfl 2 rfl rfl ?_
          refine r_i2l (pc' := 62) hx (hd 33) rfl ?_
          refine r_ldc2 (pc' := 65) hx (hd 34) kc_12_248 rfl ?_
          refine r_ldc2 (pc' := 68) hx (hd 35) kc_12_250 rfl ?_
          refine r_callS (pc' := 71) (As := [.long p2.toInt64, .long 5, .long 31]) (rest := []) hx (hd 36) md_X12_in mst_X12_in ml_12_208 (cX12_in (xl x) w hL (p2.toInt64) 5 31 M1) ⟨Nat.le_of_ble_eq_true rfl, Nat.le_of_ble_eq_true rfl⟩ rfl rfl (Nat.le_of_ble_eq_true rfl) (fun r15 => .int r15 :: []) (fun _ => M1) (fun _ => ⟨rfl, rfl⟩) rfl (fun r15 _ => ?_)
          refine r_if_eq (tgt := 78) (pc' := 74) hx (hd 37) (by decide) (fun _ => ?_) rfl (fun _ => ?_)
          · skip
            exact hj14
          · skip
            refine r_iconst (pc' := 75) (v := 1) hx (hd 38) (by decide) rfl ?_
            refine r_goto (tgt := 79) hx (hd 39) (by decide) ?_
            exact hj4 1
      · skip
        refine r_iload_n (pc' := 44) hx (hd 23) rfl 2 rfl rfl ?_
        refine r_i2l (pc' := 45) hx (hd 24) rfl ?_
        refine r_lconst (pc' := 46) (v := 0) hx (hd 25) (by decide) rfl ?_
        refine r_ldc2 (pc' := 49) hx (hd 26) kc_12_246 rfl ?_
        refine r_callS (pc' := 52) (As := [.long p2.toInt64, .long 0, .long 9]) (rest := []) hx (hd 27) md_X12_in mst_X12_in ml_12_208 (cX12_in (xl x) w hL (p2.toInt64) 0 9 M1) ⟨Nat.le_of_ble_eq_true rfl, Nat.le_of_ble_eq_true rfl⟩ rfl rfl (Nat.le_of_ble_eq_true rfl) (fun r16 => .int r16 :: []) (fun _ => M1) (fun _ => ⟨rfl, rfl⟩) rfl (fun r16 _ => ?_)
        refine r_goto (tgt := 79) hx (hd 28) (by decide) ?_
        exact hj4 r16
    · skip
      refine r_iload_n (pc' := 27) hx (hd 14) rfl 2 rfl rfl ?_
      refine r_i2l (pc' := 28) hx (hd 15) rfl ?_
      refine r_lconst (pc' := 29) (v := 0) hx (hd 16) (by decide) rfl ?_
      refine r_ldc2 (pc' := 32) hx (hd 17) kc_12_244 rfl ?_
      refine r_callS (pc' := 35) (As := [.long p2.toInt64, .long 0, .long 10]) (rest := []) hx (hd 18) md_X12_in mst_X12_in ml_12_208 (cX12_in (xl x) w hL (p2.toInt64) 0 10 M1) ⟨Nat.le_of_ble_eq_true rfl, Nat.le_of_ble_eq_true rfl⟩ rfl rfl (Nat.le_of_ble_eq_true rfl) (fun r17 => .int r17 :: []) (fun _ => M1) (fun _ => ⟨rfl, rfl⟩) rfl (fun r17 _ => ?_)
      refine r_goto (tgt := 79) hx (hd 19) (by decide) ?_
      exact hj4 r17
  · skip
    refine r_iload_n (pc' := 10) hx (hd 5) rfl 2 rfl rfl ?_
    refine r_i2l (pc' := 11) hx (hd 6) rfl ?_
    refine r_lconst (pc' := 12) (v := 0) hx (hd 7) (by decide) rfl ?_
    refine r_ldc2 (pc' := 15) hx (hd 8) kc_12_242 rfl ?_
    refine r_callS (pc' := 18) (As := [.long p2.toInt64, .long 0, .long 999]) (rest := []) hx (hd 9) md_X12_in mst_X12_in ml_12_208 (cX12_in (xl x) w hL (p2.toInt64) 0 999 M1) ⟨Nat.le_of_ble_eq_true rfl, Nat.le_of_ble_eq_true rfl⟩ rfl rfl (Nat.le_of_ble_eq_true rfl) (fun r18 => .int r18 :: []) (fun _ => M1) (fun _ => ⟨rfl, rfl⟩) rfl (fun r18 _ => ?_)
    refine r_goto (tgt := 79) hx (hd 10) (by decide) ?_
    exact hj4 r18
abbrev yX12_isHeld : MethodName := ({ cls := "CribbageRoomModel", name := "isHeld", desc := "(I)Z" } : Jvm.MethodName)
def tbX12_isHeld : List (Nat × Instr × Nat) := [(0, .aload_n 0, 1), (1, .getfield 13, 3), (4, .sipush 130, 3), (7, .iload_n 1, 1), (8, .iadd, 1), (9, .iaload, 1), (10, .iconst 1, 1), (11, .if_icmp .ne 7, 3), (14, .iconst 1, 1), (15, .goto 4, 3), (18, .iconst 0, 1), (19, .ireturn, 1)]
theorem dX12_isHeld : ∀ q ∈ tbX12_isHeld, decode prog_14_method_20_code q.1 = .ok q.2 := by decide +kernel
set_option maxRecDepth 20000 in
theorem cX12_isHeld (l : Launch) (w : WX) (hL : Lay w) (t : Nat) (ht : Wat w t 12 0) (p1 : Int32) (M : Mem) : Ct l w yX12_isHeld prog_14_method_20_code 2 (Option.some FieldType.boolean) 0 0 evI (emC M) [.ref t, .int p1] M (FX12_isHeld t p1 M) := by
  refine ct_of (by decide) (Nat.le_of_ble_eq_true rfl) (fun x hl hx hb hz => ?_)
  subst hl
  have hd : ∀ i, DAt (xc x).code (tbX12_isHeld[i]?) := fun i => by rw [hb]; exact dat_of dX12_isHeld i
  show C x w (Qn x w evI (emC M)) 2 0 [(0, .ref t), (1, .int p1)] [] M (FX12_isHeld t p1 M)
  unfold FX12_isHeld
  refine r_aload_n (pc' := 1) hx (hd 0) rfl 0 rfl rfl ?_
  refine r_get (pc' := 4) (v := .ref (t + 2)) hx (hd 1) fl_12_13 ht rfl (by decide) rfl ?_
  have h1 := hL.1 _ _ _ ht 3 2 20 5594 rfl
  refine r_sipush (pc' := 7) (v := 130) hx (hd 2) (by decide) rfl ?_
  refine r_iload_n (pc' := 8) hx (hd 3) rfl 1 rfl rfl ?_
  refine r_iadd (pc' := 9) hx (hd 4) rfl ?_
  refine r_gd (fun h2 => ?_)
  refine r_iald (pc' := 10) (k := ix (130 + p1)) hx (hd 5) h1 h2 rfl rfl ?_
  refine r_iconst (pc' := 11) (v := 1) hx (hd 6) (by decide) rfl ?_
  refine r_jn1 19 (fun v3 => []) (fun v3 => [.int v3]) (fun v3 => M) (fun v3 => ?_) (fun j4 hj5 => ?_)
  · skip
    refine r_gd (fun h6 => ?_)
    exact r_zret hx (hd 11) h6 rfl rfl hz
  refine r_icmp_ne (tgt := 18) (pc' := 14) hx (hd 7) (by decide) (fun _ => ?_) rfl (fun _ => ?_)
  · skip
    refine r_iconst (pc' := 19) (v := 0) hx (hd 10) (by decide) rfl ?_
    refine r_sub [] rfl ?_
    exact hj5 0
  · skip
    refine r_iconst (pc' := 15) (v := 1) hx (hd 8) (by decide) rfl ?_
    refine r_goto (tgt := 19) hx (hd 9) (by decide) ?_
    refine r_sub [] rfl ?_
    exact hj5 1
abbrev yX12_row : MethodName := ({ cls := "CribbageRoomModel", name := "row", desc := "()I" } : Jvm.MethodName)
def tbX12_row : List (Nat × Instr × Nat) := [(0, .aload_n 0, 1), (1, .iconst 0, 1), (2, .putfield 188, 3), (5, .aload_n 0, 1), (6, .getfield 255, 3), (9, .istore_n 1, 1), (10, .aload_n 0, 1), (11, .iconst 0, 1), (12, .putfield 255, 3), (15, .iload_n 1, 1), (16, .ifCond .ne 10, 3), (19, .aload_n 0, 1), (20, .bipush (-6), 2), (22, .invokevirtual 197, 3), (25, .ireturn, 1), (26, .aload_n 0, 1), (27, .iconst 0, 1), (28, .putfield 258, 3), (31, .iconst 0, 1), (32, .istore_n 2, 1), (33, .iload_n 2, 1), (34, .bipush 52, 2), (36, .if_icmp .ge 20, 3), (39, .aload_n 0, 1), (40, .getfield 13, 3), (43, .sipush 130, 3), (46, .iload_n 2, 1), (47, .iadd, 1), (48, .iconst 0, 1), (49, .iastore, 1), (50, .iinc 2 1, 3), (53, .goto (-20), 3), (56, .iconst 0, 1), (57, .istore_n 2, 1), (58, .iconst 0, 1), (59, .istore_n 3, 1), (60, .iload_n 3, 1), (61, .iload_n 1, 1), (62, .if_icmp .ge 71, 3), (65, .aload_n 0, 1), (66, .getfield 35, 3), (69, .iload_n 3, 1), (70, .iaload, 1), (71, .bipush 52, 2), (73, .if_icmp .ge 44, 3), (76, .iload_n 2, 1), (77, .bipush 6, 2), (79, .if_icmp .ge 38, 3), (82, .aload_n 0, 1), (83, .aload_n 0, 1), (84, .getfield 35, 3), (87, .iload_n 3, 1), (88, .iaload, 1), (89, .invokevirtual 261, 3), (92, .ifCond .ne 25, 3), (95, .aload_n 0, 1), (96, .getfield 13, 3), (99, .sipush 130, 3), (102, .aload_n 0, 1), (103, .getfield 35, 3), (106, .iload_n 3, 1), (107, .iaload, 1), (108, .iadd, 1), (109, .iconst 1, 1), (110, .iastore, 1), (111, .iinc 2 1, 3), (114, .goto 13, 3), (117, .aload_n 0, 1), (118, .dup, 1), (119, .getfield 258, 3), (122, .iconst 1, 1), (123, .iadd, 1), (124, .putfield 258, 3), (127, .iinc 3 1, 3), (130, .goto (-70), 3), (133, .aload_n 0, 1), (134, .iload_n 2, 1), (135, .invokevirtual 197, 3), (138, .ireturn, 1)]
theorem dX12_row : ∀ q ∈ tbX12_row, decode prog_14_method_26_code q.1 = .ok q.2 := by decide +kernel
set_option maxRecDepth 20000 in
theorem cX12_row (l : Launch) (w : WX) (hL : Lay w) (t : Nat) (ht : Wat w t 12 0) (M : Mem) : Ct l w yX12_row prog_14_method_26_code 4 (Option.some FieldType.int) 1 21 evIM emM [.ref t] M (FX12_row t M) := by
  refine ct_of (by decide) (Nat.le_of_ble_eq_true rfl) (fun x hl hx hb hz => ?_)
  subst hl
  have hd : ∀ i, DAt (xc x).code (tbX12_row[i]?) := fun i => by rw [hb]; exact dat_of dX12_row i
  show C x w (Qn x w evIM emM) 4 0 [(0, .ref t)] [] M (FX12_row t M)
  unfold FX12_row
  refine r_aload_n (pc' := 1) hx (hd 0) rfl 0 rfl rfl ?_
  refine r_iconst (pc' := 2) (v := 0) hx (hd 1) (by decide) rfl ?_
  refine r_putI (pc' := 5) hx (hd 2) fp_12_188 ht rfl (by decide) rfl (fun M1 => ?_)
  refine r_aload_n (pc' := 6) hx (hd 3) rfl 0 rfl rfl ?_
  refine r_get (pc' := 9) (v := .int (mI M1 t 13)) hx (hd 4) fl_12_255 ht rfl (by decide) rfl ?_
  refine r_nmI (fun v2 => ?_)
  refine r_istore_n (pc' := 10) (L' := [(1, .int v2), (0, .ref t)]) hx (hd 5) rfl (by decide) rfl rfl ?_
  refine r_aload_n (pc' := 11) hx (hd 6) rfl 1 rfl rfl ?_
  refine r_iconst (pc' := 12) (v := 0) hx (hd 7) (by decide) rfl ?_
  refine r_putI (pc' := 15) hx (hd 8) fp_12_255 ht rfl (by decide) rfl (fun M3 => ?_)
  refine r_iload_n (pc' := 16) hx (hd 9) rfl 0 rfl rfl ?_
  refine r_if_ne (tgt := 26) (pc' := 19) hx (hd 10) (by decide) (fun _ => ?_) rfl (fun _ => ?_)
  · skip
    refine r_aload_n (pc' := 27) hx (hd 15) rfl 1 rfl rfl ?_
    refine r_iconst (pc' := 28) (v := 0) hx (hd 16) (by decide) rfl ?_
    refine r_putI (pc' := 31) hx (hd 17) fp_12_258 ht rfl (by decide) rfl (fun M4 => ?_)
    refine r_iconst (pc' := 32) (v := 0) hx (hd 18) (by decide) rfl ?_
    refine r_istore_n (pc' := 33) (L' := [(2, .int 0), (1, .int v2), (0, .ref t)]) hx (hd 19) rfl (by decide) rfl rfl ?_
    refine r_sub [2, 1, 0] rfl ?_
    refine r_wl2 (fun v5 M6 => [(0, .ref t), (1, .int v2), (2, .int v5)]) (fun v5 M6 => []) (fun v5 M6 => M6) (fun v5 M6 rec7 ih8 => ?_) fuel 0 M4
    refine r_iload_n (pc' := 34) hx (hd 20) rfl 2 rfl rfl ?_
    refine r_bipush (pc' := 36) (v := 52) hx (hd 21) (by decide) rfl ?_
    refine r_icmp_ge (tgt := 56) (pc' := 39) hx (hd 22) (by decide) (fun _ => ?_) rfl (fun _ => ?_)
    · skip
      refine r_iconst (pc' := 57) (v := 0) hx (hd 32) (by decide) rfl ?_
      refine r_istore_n (pc' := 58) (L' := [(2, .int 0), (0, .ref t), (1, .int v2)]) hx (hd 33) rfl (by decide) rfl rfl ?_
      refine r_iconst (pc' := 59) (v := 0) hx (hd 34) (by decide) rfl ?_
      refine r_istore_n (pc' := 60) (L' := [(3, .int 0), (2, .int 0), (0, .ref t), (1, .int v2)]) hx (hd 35) rfl (by decide) rfl rfl ?_
      refine r_sub [2, 3, 1, 0] rfl ?_
      refine r_wl3 (fun v9 v10 M11 => [(0, .ref t), (1, .int v2), (2, .int v9), (3, .int v10)]) (fun v9 v10 M11 => []) (fun v9 v10 M11 => M11) (fun v9 v10 M11 rec12 ih13 => ?_) fuel 0 0 M6
      refine r_iload_n (pc' := 61) hx (hd 36) rfl 3 rfl rfl ?_
      refine r_iload_n (pc' := 62) hx (hd 37) rfl 1 rfl rfl ?_
      refine r_icmp_ge (tgt := 133) (pc' := 65) hx (hd 38) (by decide) (fun _ => ?_) rfl (fun _ => ?_)
      · skip
        refine r_aload_n (pc' := 134) hx (hd 75) rfl 0 rfl rfl ?_
        refine r_iload_n (pc' := 135) hx (hd 76) rfl 2 rfl rfl ?_
        refine r_callVI (pc' := 138) (As := [.int v9]) (rest := []) hx (hd 77) md_X12_tell mi_X12_tell ms_X12_tell ml_12_197 (cX12_tell (xl x) w hL t ht v9 M11) ht rfl (by decide) ⟨Nat.le_of_ble_eq_true rfl, Nat.le_of_ble_eq_true rfl⟩ rfl rfl (Nat.le_of_ble_eq_true rfl) (fun r15 => .int r15 :: []) (fun _ => rfl) rfl (fun r15 M14 => ?_)
        exact r_iret hx (hd 78) rfl rfl hz
      · skip
        refine r_aload_n (pc' := 66) hx (hd 39) rfl 0 rfl rfl ?_
        refine r_get (pc' := 69) (v := .ref (t + 9)) hx (hd 40) fl_12_35 ht rfl (by decide) rfl ?_
        have h16 := hL.1 _ _ _ ht 12 9 20 400 rfl
        refine r_iload_n (pc' := 70) hx (hd 41) rfl 3 rfl rfl ?_
        refine r_gd (fun h17 => ?_)
        refine r_iald (pc' := 71) (k := ix v10) hx (hd 42) h16 h17 rfl rfl ?_
        refine r_bipush (pc' := 73) (v := 52) hx (hd 43) (by decide) rfl ?_
        refine r_jn2 127 (fun v18 M19 => [(0, .ref t), (1, .int v2), (2, .int v18), (3, .int v10)]) (fun v18 M19 => []) (fun v18 M19 => M19) (fun v18 M19 => ?_) (fun j20 hj21 => ?_)
        · skip
          refine r_iinc (pc' := 130) (v := 1) hx (hd 73) 3 rfl (by decide) (by decide) (fun v22 => [(3, .int v22), (0, .ref t), (1, .int v2), (2, .int v18)]) (fun _ => rfl) rfl (fun v22 => ?_)
          refine r_goto (tgt := 60) hx (hd 74) (by decide) ?_
          refine r_sub [1, 2, 3, 0] rfl ?_
          exact ih13 v18 v22 M19
        refine r_jn0 117 ([(0, .ref t), (1, .int v2), (2, .int v9), (3, .int v10)]) ([]) (M11) (?_) (fun j23 hj24 => ?_)
        · skip
          refine r_aload_n (pc' := 118) hx (hd 67) rfl 0 rfl rfl ?_
          refine r_dup (pc' := 119) hx (hd 68) rfl rfl ?_
          refine r_get (pc' := 122) (v := .int (mI M11 t 11)) hx (hd 69) fl_12_258 ht rfl (by decide) rfl ?_
          refine r_iconst (pc' := 123) (v := 1) hx (hd 70) (by decide) rfl ?_
          refine r_iadd (pc' := 124) hx (hd 71) rfl ?_
          refine r_putI (pc' := 127) hx (hd 72) fp_12_258 ht rfl (by decide) rfl (fun M25 => ?_)
          exact hj21 v9 M25
        refine r_icmp_ge (tgt := 117) (pc' := 76) hx (hd 44) (by decide) (fun _ => ?_) rfl (fun _ => ?_)
        · skip
          exact hj24
        · skip
          refine r_iload_n (pc' := 77) hx (hd 45) rfl 2 rfl rfl ?_
          refine r_bipush (pc' := 79) (v := 6) hx (hd 46) (by decide) rfl ?_
          refine r_icmp_ge (tgt := 117) (pc' := 82) hx (hd 47) (by decide) (fun _ => ?_) rfl (fun _ => ?_)
          · skip
            exact hj24
          · skip
            refine r_aload_n (pc' := 83) hx (hd 48) rfl 0 rfl rfl ?_
            refine r_aload_n (pc' := 84) hx (hd 49) rfl 0 rfl rfl ?_
            refine r_get (pc' := 87) (v := .ref (t + 9)) hx (hd 50) fl_12_35 ht rfl (by decide) rfl ?_
            have h26 := hL.1 _ _ _ ht 12 9 20 400 rfl
            refine r_iload_n (pc' := 88) hx (hd 51) rfl 3 rfl rfl ?_
            refine r_gd (fun h27 => ?_)
            refine r_iald (pc' := 89) (k := ix v10) hx (hd 52) h26 h27 rfl rfl ?_
            refine r_callV (pc' := 92) (As := [.int (mI M11 (t + 9) (ix v10))]) (rest := []) hx (hd 53) md_X12_isHeld mi_X12_isHeld ms_X12_isHeld ml_12_261 (cX12_isHeld (xl x) w hL t ht (mI M11 (t + 9) (ix v10)) M11) ht rfl (by decide) ⟨Nat.le_of_ble_eq_true rfl, Nat.le_of_ble_eq_true rfl⟩ rfl rfl (Nat.le_of_ble_eq_true rfl) (fun r28 => .int r28 :: []) (fun _ => M11) (fun _ => ⟨rfl, rfl⟩) rfl (fun r28 _ => ?_)
            refine r_if_ne (tgt := 117) (pc' := 95) hx (hd 54) (by decide) (fun _ => ?_) rfl (fun _ => ?_)
            · skip
              exact hj24
            · skip
              refine r_aload_n (pc' := 96) hx (hd 55) rfl 0 rfl rfl ?_
              refine r_get (pc' := 99) (v := .ref (t + 2)) hx (hd 56) fl_12_13 ht rfl (by decide) rfl ?_
              have h29 := hL.1 _ _ _ ht 3 2 20 5594 rfl
              refine r_sipush (pc' := 102) (v := 130) hx (hd 57) (by decide) rfl ?_
              refine r_aload_n (pc' := 103) hx (hd 58) rfl 0 rfl rfl ?_
              refine r_get (pc' := 106) (v := .ref (t + 9)) hx (hd 59) fl_12_35 ht rfl (by decide) rfl ?_
              have h30 := hL.1 _ _ _ ht 12 9 20 400 rfl
              refine r_iload_n (pc' := 107) hx (hd 60) rfl 3 rfl rfl ?_
              refine r_gd (fun h31 => ?_)
              refine r_iald (pc' := 108) (k := ix v10) hx (hd 61) h30 h31 rfl rfl ?_
              refine r_iadd (pc' := 109) hx (hd 62) rfl ?_
              refine r_iconst (pc' := 110) (v := 1) hx (hd 63) (by decide) rfl ?_
              refine r_gd (fun h33 => ?_)
              refine r_iast (pc' := 111) (k := ix (130 + (mI M11 (t + 9) (ix v10)))) hx (hd 64) h29 h33 rfl rfl (fun M32 => ?_)
              refine r_iinc (pc' := 114) (v := 1) hx (hd 65) 2 rfl (by decide) (by decide) (fun v34 => [(2, .int v34), (0, .ref t), (1, .int v2), (3, .int v10)]) (fun _ => rfl) rfl (fun v34 => ?_)
              refine r_goto (tgt := 127) hx (hd 66) (by decide) ?_
              refine r_sub [1, 2, 0, 3] rfl ?_
              exact hj21 v34 M32
    · skip
      refine r_aload_n (pc' := 40) hx (hd 23) rfl 0 rfl rfl ?_
      refine r_get (pc' := 43) (v := .ref (t + 2)) hx (hd 24) fl_12_13 ht rfl (by decide) rfl ?_
      have h35 := hL.1 _ _ _ ht 3 2 20 5594 rfl
      refine r_sipush (pc' := 46) (v := 130) hx (hd 25) (by decide) rfl ?_
      refine r_iload_n (pc' := 47) hx (hd 26) rfl 2 rfl rfl ?_
      refine r_iadd (pc' := 48) hx (hd 27) rfl ?_
      refine r_iconst (pc' := 49) (v := 0) hx (hd 28) (by decide) rfl ?_
      refine r_gd (fun h37 => ?_)
      refine r_iast (pc' := 50) (k := ix (130 + v5)) hx (hd 29) h35 h37 rfl rfl (fun M36 => ?_)
      refine r_iinc (pc' := 53) (v := 1) hx (hd 30) 2 rfl (by decide) (by decide) (fun v38 => [(2, .int v38), (0, .ref t), (1, .int v2)]) (fun _ => rfl) rfl (fun v38 => ?_)
      refine r_goto (tgt := 33) hx (hd 31) (by decide) ?_
      refine r_sub [1, 2, 0] rfl ?_
      exact ih8 v38 M36
  · skip
    refine r_aload_n (pc' := 20) hx (hd 11) rfl 1 rfl rfl ?_
    refine r_bipush (pc' := 22) (v := (-6)) hx (hd 12) (by decide) rfl ?_
    refine r_callVI (pc' := 25) (As := [.int (-6)]) (rest := []) hx (hd 13) md_X12_tell mi_X12_tell ms_X12_tell ml_12_197 (cX12_tell (xl x) w hL t ht (-6) M3) ht rfl (by decide) ⟨Nat.le_of_ble_eq_true rfl, Nat.le_of_ble_eq_true rfl⟩ rfl rfl (Nat.le_of_ble_eq_true rfl) (fun r40 => .int r40 :: []) (fun _ => rfl) rfl (fun r40 M39 => ?_)
    exact r_iret hx (hd 14) rfl rfl hz
abbrev yX12_jokers : MethodName := ({ cls := "CribbageRoomModel", name := "jokers", desc := "()I" } : Jvm.MethodName)
def tbX12_jokers : List (Nat × Instr × Nat) := [(0, .aload_n 0, 1), (1, .iconst 0, 1), (2, .putfield 188, 3), (5, .aload_n 0, 1), (6, .getfield 258, 3), (9, .ireturn, 1)]
theorem dX12_jokers : ∀ q ∈ tbX12_jokers, decode prog_14_method_27_code q.1 = .ok q.2 := by decide +kernel
set_option maxRecDepth 20000 in
theorem cX12_jokers (l : Launch) (w : WX) (hL : Lay w) (t : Nat) (ht : Wat w t 12 0) (M : Mem) : Ct l w yX12_jokers prog_14_method_27_code 1 (Option.some FieldType.int) 0 0 evIM emM [.ref t] M (FX12_jokers t M) := by
  refine ct_of (by decide) (Nat.le_of_ble_eq_true rfl) (fun x hl hx hb hz => ?_)
  subst hl
  have hd : ∀ i, DAt (xc x).code (tbX12_jokers[i]?) := fun i => by rw [hb]; exact dat_of dX12_jokers i
  show C x w (Qn x w evIM emM) 1 0 [(0, .ref t)] [] M (FX12_jokers t M)
  unfold FX12_jokers
  refine r_aload_n (pc' := 1) hx (hd 0) rfl 0 rfl rfl ?_
  refine r_iconst (pc' := 2) (v := 0) hx (hd 1) (by decide) rfl ?_
  refine r_putI (pc' := 5) hx (hd 2) fp_12_188 ht rfl (by decide) rfl (fun M1 => ?_)
  refine r_aload_n (pc' := 6) hx (hd 3) rfl 0 rfl rfl ?_
  refine r_get (pc' := 9) (v := .int (mI M1 t 11)) hx (hd 4) fl_12_258 ht rfl (by decide) rfl ?_
  exact r_iret hx (hd 5) rfl rfl hz
abbrev yX12_four : MethodName := ({ cls := "CribbageRoomModel", name := "four", desc := "(I)V" } : Jvm.MethodName)
def tbX12_four : List (Nat × Instr × Nat) := [(0, .bipush 24, 2), (2, .istore_n 2, 1), (3, .iload_n 2, 1), (4, .ifCond .lt 35, 3), (7, .aload_n 0, 1), (8, .getfield 35, 3), (11, .aload_n 0, 1), (12, .getfield 255, 3), (15, .iload_n 1, 1), (16, .iload_n 2, 1), (17, .ishr, 1), (18, .sipush 255, 3), (21, .iand, 1), (22, .iastore, 1), (23, .aload_n 0, 1), (24, .dup, 1), (25, .getfield 255, 3), (28, .iconst 1, 1), (29, .iadd, 1), (30, .putfield 255, 3), (33, .iinc 2 (-8), 3), (36, .goto (-33), 3), (39, .return_, 1)]
theorem dX12_four : ∀ q ∈ tbX12_four, decode prog_14_method_28_code q.1 = .ok q.2 := by decide +kernel
set_option maxRecDepth 20000 in
theorem cX12_four (l : Launch) (w : WX) (hL : Lay w) (t : Nat) (ht : Wat w t 12 0) (p1 : Int32) (M : Mem) : Ct l w yX12_four prog_14_method_28_code 3 (Option.none : Option FieldType) 0 0 evU emU [.ref t, .int p1] M (FX12_four t p1 M) := by
  refine ct_of (by decide) (Nat.le_of_ble_eq_true rfl) (fun x hl hx hb hz => ?_)
  subst hl
  have hd : ∀ i, DAt (xc x).code (tbX12_four[i]?) := fun i => by rw [hb]; exact dat_of dX12_four i
  show C x w (Qn x w evU emU) 3 0 [(0, .ref t), (1, .int p1)] [] M (FX12_four t p1 M)
  unfold FX12_four
  refine r_bipush (pc' := 2) (v := 24) hx (hd 0) (by decide) rfl ?_
  refine r_istore_n (pc' := 3) (L' := [(2, .int 24), (0, .ref t), (1, .int p1)]) hx (hd 1) rfl (by decide) rfl rfl ?_
  refine r_sub [1, 2, 0] rfl ?_
  refine r_wl2 (fun v1 M2 => [(0, .ref t), (1, .int p1), (2, .int v1)]) (fun v1 M2 => []) (fun v1 M2 => M2) (fun v1 M2 rec3 ih4 => ?_) fuel 24 M
  refine r_iload_n (pc' := 4) hx (hd 2) rfl 2 rfl rfl ?_
  refine r_if_lt (tgt := 39) (pc' := 7) hx (hd 3) (by decide) (fun _ => ?_) rfl (fun _ => ?_)
  · skip
    exact r_vret hx (hd 22) rfl rfl hz
  · skip
    refine r_aload_n (pc' := 8) hx (hd 4) rfl 0 rfl rfl ?_
    refine r_get (pc' := 11) (v := .ref (t + 9)) hx (hd 5) fl_12_35 ht rfl (by decide) rfl ?_
    have h5 := hL.1 _ _ _ ht 12 9 20 400 rfl
    refine r_aload_n (pc' := 12) hx (hd 6) rfl 0 rfl rfl ?_
    refine r_get (pc' := 15) (v := .int (mI M2 t 13)) hx (hd 7) fl_12_255 ht rfl (by decide) rfl ?_
    refine r_iload_n (pc' := 16) hx (hd 8) rfl 1 rfl rfl ?_
    refine r_iload_n (pc' := 17) hx (hd 9) rfl 2 rfl rfl ?_
    refine r_ishr (pc' := 18) hx (hd 10) rfl ?_
    refine r_sipush (pc' := 21) (v := 255) hx (hd 11) (by decide) rfl ?_
    refine r_iand (pc' := 22) hx (hd 12) rfl ?_
    refine r_gd (fun h7 => ?_)
    refine r_iast (pc' := 23) (k := ix (mI M2 t 13)) hx (hd 13) h5 h7 rfl rfl (fun M6 => ?_)
    refine r_aload_n (pc' := 24) hx (hd 14) rfl 0 rfl rfl ?_
    refine r_dup (pc' := 25) hx (hd 15) rfl rfl ?_
    refine r_get (pc' := 28) (v := .int (mI M6 t 13)) hx (hd 16) fl_12_255 ht rfl (by decide) rfl ?_
    refine r_iconst (pc' := 29) (v := 1) hx (hd 17) (by decide) rfl ?_
    refine r_iadd (pc' := 30) hx (hd 18) rfl ?_
    refine r_putI (pc' := 33) hx (hd 19) fp_12_255 ht rfl (by decide) rfl (fun M8 => ?_)
    refine r_iinc (pc' := 36) (v := (-8)) hx (hd 20) 2 rfl (by decide) (by decide) (fun v9 => [(2, .int v9), (0, .ref t), (1, .int p1)]) (fun _ => rfl) rfl (fun v9 => ?_)
    refine r_goto (tgt := 3) hx (hd 21) (by decide) ?_
    refine r_sub [1, 2, 0] rfl ?_
    exact ih4 v9 M8
abbrev yX12_feed : MethodName := ({ cls := "CribbageRoomModel", name := "feed", desc := "(IIIII)I" } : Jvm.MethodName)
def tbX12_feed : List (Nat × Instr × Nat) := [(0, .aload_n 0, 1), (1, .iconst 0, 1), (2, .putfield 188, 3), (5, .aload_n 0, 1), (6, .getfield 255, 3), (9, .bipush 20, 2), (11, .iadd, 1), (12, .sipush 400, 3), (15, .if_icmp .le 5, 3), (18, .iconst (-1), 1), (19, .ireturn, 1), (20, .aload_n 0, 1), (21, .iload_n 1, 1), (22, .invokevirtual 264, 3), (25, .aload_n 0, 1), (26, .iload_n 2, 1), (27, .invokevirtual 264, 3), (30, .aload_n 0, 1), (31, .iload_n 3, 1), (32, .invokevirtual 264, 3), (35, .aload_n 0, 1), (36, .iload 4, 2), (38, .invokevirtual 264, 3), (41, .aload_n 0, 1), (42, .iload 5, 2), (44, .invokevirtual 264, 3), (47, .aload_n 0, 1), (48, .getfield 255, 3), (51, .ireturn, 1)]
theorem dX12_feed : ∀ q ∈ tbX12_feed, decode prog_14_method_29_code q.1 = .ok q.2 := by decide +kernel
set_option maxRecDepth 20000 in
theorem cX12_feed (l : Launch) (w : WX) (hL : Lay w) (t : Nat) (ht : Wat w t 12 0) (p1 : Int32) (p2 : Int32) (p3 : Int32) (p4 : Int32) (p5 : Int32) (M : Mem) : Ct l w yX12_feed prog_14_method_29_code 6 (Option.some FieldType.int) 1 22 evIM emM [.ref t, .int p1, .int p2, .int p3, .int p4, .int p5] M (FX12_feed t p1 p2 p3 p4 p5 M) := by
  refine ct_of (by decide) (Nat.le_of_ble_eq_true rfl) (fun x hl hx hb hz => ?_)
  subst hl
  have hd : ∀ i, DAt (xc x).code (tbX12_feed[i]?) := fun i => by rw [hb]; exact dat_of dX12_feed i
  show C x w (Qn x w evIM emM) 6 0 [(0, .ref t), (1, .int p1), (2, .int p2), (3, .int p3), (4, .int p4), (5, .int p5)] [] M (FX12_feed t p1 p2 p3 p4 p5 M)
  unfold FX12_feed
  refine r_aload_n (pc' := 1) hx (hd 0) rfl 0 rfl rfl ?_
  refine r_iconst (pc' := 2) (v := 0) hx (hd 1) (by decide) rfl ?_
  refine r_putI (pc' := 5) hx (hd 2) fp_12_188 ht rfl (by decide) rfl (fun M1 => ?_)
  refine r_aload_n (pc' := 6) hx (hd 3) rfl 0 rfl rfl ?_
  refine r_get (pc' := 9) (v := .int (mI M1 t 13)) hx (hd 4) fl_12_255 ht rfl (by decide) rfl ?_
  refine r_bipush (pc' := 11) (v := 20) hx (hd 5) (by decide) rfl ?_
  refine r_iadd (pc' := 12) hx (hd 6) rfl ?_
  refine r_sipush (pc' := 15) (v := 400) hx (hd 7) (by decide) rfl ?_
  refine r_icmp_le (tgt := 20) (pc' := 18) hx (hd 8) (by decide) (fun _ => ?_) rfl (fun _ => ?_)
  · skip
    refine r_aload_n (pc' := 21) hx (hd 11) rfl 0 rfl rfl ?_
    refine r_iload_n (pc' := 22) hx (hd 12) rfl 1 rfl rfl ?_
    refine r_callVU (pc' := 25) (As := [.int p1]) (rest := []) hx (hd 13) md_X12_four mi_X12_four ms_X12_four ml_12_264 (cX12_four (xl x) w hL t ht p1 M1) ht rfl (by decide) ⟨Nat.le_of_ble_eq_true rfl, Nat.le_of_ble_eq_true rfl⟩ rfl rfl (Nat.le_of_ble_eq_true rfl) rfl (fun M2 => ?_)
    refine r_aload_n (pc' := 26) hx (hd 14) rfl 0 rfl rfl ?_
    refine r_iload_n (pc' := 27) hx (hd 15) rfl 2 rfl rfl ?_
    refine r_callVU (pc' := 30) (As := [.int p2]) (rest := []) hx (hd 16) md_X12_four mi_X12_four ms_X12_four ml_12_264 (cX12_four (xl x) w hL t ht p2 M2) ht rfl (by decide) ⟨Nat.le_of_ble_eq_true rfl, Nat.le_of_ble_eq_true rfl⟩ rfl rfl (Nat.le_of_ble_eq_true rfl) rfl (fun M3 => ?_)
    refine r_aload_n (pc' := 31) hx (hd 17) rfl 0 rfl rfl ?_
    refine r_iload_n (pc' := 32) hx (hd 18) rfl 3 rfl rfl ?_
    refine r_callVU (pc' := 35) (As := [.int p3]) (rest := []) hx (hd 19) md_X12_four mi_X12_four ms_X12_four ml_12_264 (cX12_four (xl x) w hL t ht p3 M3) ht rfl (by decide) ⟨Nat.le_of_ble_eq_true rfl, Nat.le_of_ble_eq_true rfl⟩ rfl rfl (Nat.le_of_ble_eq_true rfl) rfl (fun M4 => ?_)
    refine r_aload_n (pc' := 36) hx (hd 20) rfl 0 rfl rfl ?_
    refine r_iload (pc' := 38) hx (hd 21) 4 rfl rfl ?_
    refine r_callVU (pc' := 41) (As := [.int p4]) (rest := []) hx (hd 22) md_X12_four mi_X12_four ms_X12_four ml_12_264 (cX12_four (xl x) w hL t ht p4 M4) ht rfl (by decide) ⟨Nat.le_of_ble_eq_true rfl, Nat.le_of_ble_eq_true rfl⟩ rfl rfl (Nat.le_of_ble_eq_true rfl) rfl (fun M5 => ?_)
    refine r_aload_n (pc' := 42) hx (hd 23) rfl 0 rfl rfl ?_
    refine r_iload (pc' := 44) hx (hd 24) 5 rfl rfl ?_
    refine r_callVU (pc' := 47) (As := [.int p5]) (rest := []) hx (hd 25) md_X12_four mi_X12_four ms_X12_four ml_12_264 (cX12_four (xl x) w hL t ht p5 M5) ht rfl (by decide) ⟨Nat.le_of_ble_eq_true rfl, Nat.le_of_ble_eq_true rfl⟩ rfl rfl (Nat.le_of_ble_eq_true rfl) rfl (fun M6 => ?_)
    refine r_aload_n (pc' := 48) hx (hd 26) rfl 0 rfl rfl ?_
    refine r_get (pc' := 51) (v := .int (mI M6 t 13)) hx (hd 27) fl_12_255 ht rfl (by decide) rfl ?_
    exact r_iret hx (hd 28) rfl rfl hz
  · skip
    refine r_iconst (pc' := 19) (v := (-1)) hx (hd 9) (by decide) rfl ?_
    exact r_iret hx (hd 10) rfl rfl hz
abbrev yX12_end : MethodName := ({ cls := "CribbageRoomModel", name := "end", desc := "(I)I" } : Jvm.MethodName)
def tbX12_end : List (Nat × Instr × Nat) := [(0, .aload_n 0, 1), (1, .iconst 0, 1), (2, .putfield 188, 3), (5, .iload_n 1, 1), (6, .ifCond .lt 11, 3), (9, .iload_n 1, 1), (10, .aload_n 0, 1), (11, .getfield 255, 3), (14, .if_icmp .le 5, 3), (17, .iconst (-1), 1), (18, .ireturn, 1), (19, .aload_n 0, 1), (20, .iload_n 1, 1), (21, .putfield 255, 3), (24, .iload_n 1, 1), (25, .ireturn, 1)]
theorem dX12_end : ∀ q ∈ tbX12_end, decode prog_14_method_30_code q.1 = .ok q.2 := by decide +kernel
set_option maxRecDepth 20000 in
theorem cX12_end (l : Launch) (w : WX) (hL : Lay w) (t : Nat) (ht : Wat w t 12 0) (p1 : Int32) (M : Mem) : Ct l w yX12_end prog_14_method_30_code 2 (Option.some FieldType.int) 0 0 evIM emM [.ref t, .int p1] M (FX12_end t p1 M) := by
  refine ct_of (by decide) (Nat.le_of_ble_eq_true rfl) (fun x hl hx hb hz => ?_)
  subst hl
  have hd : ∀ i, DAt (xc x).code (tbX12_end[i]?) := fun i => by rw [hb]; exact dat_of dX12_end i
  show C x w (Qn x w evIM emM) 2 0 [(0, .ref t), (1, .int p1)] [] M (FX12_end t p1 M)
  unfold FX12_end
  refine r_aload_n (pc' := 1) hx (hd 0) rfl 0 rfl rfl ?_
  refine r_iconst (pc' := 2) (v := 0) hx (hd 1) (by decide) rfl ?_
  refine r_putI (pc' := 5) hx (hd 2) fp_12_188 ht rfl (by decide) rfl (fun M1 => ?_)
  refine r_iload_n (pc' := 6) hx (hd 3) rfl 1 rfl rfl ?_
  refine r_jn0 17 ([]) ([]) (M1) (?_) (fun j2 hj3 => ?_)
  · skip
    refine r_iconst (pc' := 18) (v := (-1)) hx (hd 9) (by decide) rfl ?_
    exact r_iret hx (hd 10) rfl rfl hz
  refine r_if_lt (tgt := 17) (pc' := 9) hx (hd 4) (by decide) (fun _ => ?_) rfl (fun _ => ?_)
  · skip
    refine r_sub [] rfl ?_
    exact hj3
  · skip
    refine r_iload_n (pc' := 10) hx (hd 5) rfl 1 rfl rfl ?_
    refine r_aload_n (pc' := 11) hx (hd 6) rfl 0 rfl rfl ?_
    refine r_get (pc' := 14) (v := .int (mI M1 t 13)) hx (hd 7) fl_12_255 ht rfl (by decide) rfl ?_
    refine r_icmp_le (tgt := 19) (pc' := 17) hx (hd 8) (by decide) (fun _ => ?_) rfl (fun _ => ?_)
    · skip
      refine r_aload_n (pc' := 20) hx (hd 11) rfl 0 rfl rfl ?_
      refine r_iload_n (pc' := 21) hx (hd 12) rfl 1 rfl rfl ?_
      refine r_putI (pc' := 24) hx (hd 13) fp_12_255 ht rfl (by decide) rfl (fun M4 => ?_)
      refine r_iload_n (pc' := 25) hx (hd 14) rfl 1 rfl rfl ?_
      exact r_iret hx (hd 15) rfl rfl hz
    · skip
      refine r_sub [] rfl ?_
      exact hj3
abbrev yX12_fault : MethodName := ({ cls := "CribbageRoomModel", name := "fault", desc := "()I" } : Jvm.MethodName)
def tbX12_fault : List (Nat × Instr × Nat) := [(0, .aload_n 0, 1), (1, .iconst 0, 1), (2, .putfield 188, 3), (5, .aload_n 0, 1), (6, .getfield 38, 3), (9, .ireturn, 1)]
theorem dX12_fault : ∀ q ∈ tbX12_fault, decode prog_14_method_39_code q.1 = .ok q.2 := by decide +kernel
set_option maxRecDepth 20000 in
theorem cX12_fault (l : Launch) (w : WX) (hL : Lay w) (t : Nat) (ht : Wat w t 12 0) (M : Mem) : Ct l w yX12_fault prog_14_method_39_code 1 (Option.some FieldType.int) 0 0 evIM emM [.ref t] M (FX12_fault t M) := by
  refine ct_of (by decide) (Nat.le_of_ble_eq_true rfl) (fun x hl hx hb hz => ?_)
  subst hl
  have hd : ∀ i, DAt (xc x).code (tbX12_fault[i]?) := fun i => by rw [hb]; exact dat_of dX12_fault i
  show C x w (Qn x w evIM emM) 1 0 [(0, .ref t)] [] M (FX12_fault t M)
  unfold FX12_fault
  refine r_aload_n (pc' := 1) hx (hd 0) rfl 0 rfl rfl ?_
  refine r_iconst (pc' := 2) (v := 0) hx (hd 1) (by decide) rfl ?_
  refine r_putI (pc' := 5) hx (hd 2) fp_12_188 ht rfl (by decide) rfl (fun M1 => ?_)
  refine r_aload_n (pc' := 6) hx (hd 3) rfl 0 rfl rfl ?_
  refine r_get (pc' := 9) (v := .int (mI M1 t 18)) hx (hd 4) fl_12_38 ht rfl (by decide) rfl ?_
  exact r_iret hx (hd 5) rfl rfl hz
abbrev yX12_isSmall : MethodName := ({ cls := "CribbageRoomModel", name := "isSmall", desc := "(I)Z" } : Jvm.MethodName)
def tbX12_isSmall : List (Nat × Instr × Nat) := [(0, .iload_n 0, 1), (1, .bipush 97, 2), (3, .if_icmp .lt 13, 3), (6, .iload_n 0, 1), (7, .bipush 122, 2), (9, .if_icmp .gt 7, 3), (12, .iconst 1, 1), (13, .goto 4, 3), (16, .iconst 0, 1), (17, .ireturn, 1)]
theorem dX12_isSmall : ∀ q ∈ tbX12_isSmall, decode prog_14_method_31_code q.1 = .ok q.2 := by decide +kernel
set_option maxRecDepth 20000 in
theorem cX12_isSmall (l : Launch) (w : WX) (hL : Lay w) (p0 : Int32) (M : Mem) : Ct l w yX12_isSmall prog_14_method_31_code 1 (Option.some FieldType.boolean) 0 0 evI (emC M) [.int p0] M (FX12_isSmall p0) := by
  refine ct_of (by decide) (Nat.le_of_ble_eq_true rfl) (fun x hl hx hb hz => ?_)
  subst hl
  have hd : ∀ i, DAt (xc x).code (tbX12_isSmall[i]?) := fun i => by rw [hb]; exact dat_of dX12_isSmall i
  show C x w (Qn x w evI (emC M)) 1 0 [(0, .int p0)] [] M (FX12_isSmall p0)
  unfold FX12_isSmall
  refine r_iload_n (pc' := 1) hx (hd 0) rfl 0 rfl rfl ?_
  refine r_bipush (pc' := 3) (v := 97) hx (hd 1) (by decide) rfl ?_
  refine r_jn1 17 (fun v1 => []) (fun v1 => [.int v1]) (fun v1 => M) (fun v1 => ?_) (fun j2 hj3 => ?_)
  · skip
    refine r_gd (fun h4 => ?_)
    exact r_zret hx (hd 9) h4 rfl rfl hz
  refine r_jn0 16 ([]) ([]) (M) (?_) (fun j5 hj6 => ?_)
  · skip
    refine r_iconst (pc' := 17) (v := 0) hx (hd 8) (by decide) rfl ?_
    exact hj3 0
  refine r_icmp_lt (tgt := 16) (pc' := 6) hx (hd 2) (by decide) (fun _ => ?_) rfl (fun _ => ?_)
  · skip
    refine r_sub [] rfl ?_
    exact hj6
  · skip
    refine r_iload_n (pc' := 7) hx (hd 3) rfl 0 rfl rfl ?_
    refine r_bipush (pc' := 9) (v := 122) hx (hd 4) (by decide) rfl ?_
    refine r_icmp_gt (tgt := 16) (pc' := 12) hx (hd 5) (by decide) (fun _ => ?_) rfl (fun _ => ?_)
    · skip
      refine r_sub [] rfl ?_
      exact hj6
    · skip
      refine r_iconst (pc' := 13) (v := 1) hx (hd 6) (by decide) rfl ?_
      refine r_goto (tgt := 17) hx (hd 7) (by decide) ?_
      refine r_sub [] rfl ?_
      exact hj3 1
abbrev yX12_isDigit : MethodName := ({ cls := "CribbageRoomModel", name := "isDigit", desc := "(I)Z" } : Jvm.MethodName)
def tbX12_isDigit : List (Nat × Instr × Nat) := [(0, .iload_n 0, 1), (1, .bipush 48, 2), (3, .if_icmp .lt 13, 3), (6, .iload_n 0, 1), (7, .bipush 57, 2), (9, .if_icmp .gt 7, 3), (12, .iconst 1, 1), (13, .goto 4, 3), (16, .iconst 0, 1), (17, .ireturn, 1)]
theorem dX12_isDigit : ∀ q ∈ tbX12_isDigit, decode prog_14_method_32_code q.1 = .ok q.2 := by decide +kernel
set_option maxRecDepth 20000 in
theorem cX12_isDigit (l : Launch) (w : WX) (hL : Lay w) (p0 : Int32) (M : Mem) : Ct l w yX12_isDigit prog_14_method_32_code 1 (Option.some FieldType.boolean) 0 0 evI (emC M) [.int p0] M (FX12_isDigit p0) := by
  refine ct_of (by decide) (Nat.le_of_ble_eq_true rfl) (fun x hl hx hb hz => ?_)
  subst hl
  have hd : ∀ i, DAt (xc x).code (tbX12_isDigit[i]?) := fun i => by rw [hb]; exact dat_of dX12_isDigit i
  show C x w (Qn x w evI (emC M)) 1 0 [(0, .int p0)] [] M (FX12_isDigit p0)
  unfold FX12_isDigit
  refine r_iload_n (pc' := 1) hx (hd 0) rfl 0 rfl rfl ?_
  refine r_bipush (pc' := 3) (v := 48) hx (hd 1) (by decide) rfl ?_
  refine r_jn1 17 (fun v1 => []) (fun v1 => [.int v1]) (fun v1 => M) (fun v1 => ?_) (fun j2 hj3 => ?_)
  · skip
    refine r_gd (fun h4 => ?_)
    exact r_zret hx (hd 9) h4 rfl rfl hz
  refine r_jn0 16 ([]) ([]) (M) (?_) (fun j5 hj6 => ?_)
  · skip
    refine r_iconst (pc' := 17) (v := 0) hx (hd 8) (by decide) rfl ?_
    exact hj3 0
  refine r_icmp_lt (tgt := 16) (pc' := 6) hx (hd 2) (by decide) (fun _ => ?_) rfl (fun _ => ?_)
  · skip
    refine r_sub [] rfl ?_
    exact hj6
  · skip
    refine r_iload_n (pc' := 7) hx (hd 3) rfl 0 rfl rfl ?_
    refine r_bipush (pc' := 9) (v := 57) hx (hd 4) (by decide) rfl ?_
    refine r_icmp_gt (tgt := 16) (pc' := 12) hx (hd 5) (by decide) (fun _ => ?_) rfl (fun _ => ?_)
    · skip
      refine r_sub [] rfl ?_
      exact hj6
    · skip
      refine r_iconst (pc' := 13) (v := 1) hx (hd 6) (by decide) rfl ?_
      refine r_goto (tgt := 17) hx (hd 7) (by decide) ?_
      refine r_sub [] rfl ?_
      exact hj3 1
abbrev yX12_next : MethodName := ({ cls := "CribbageRoomModel", name := "next", desc := "()V" } : Jvm.MethodName)
def tbX12_next : List (Nat × Instr × Nat) := [(0, .aload_n 0, 1), (1, .aload_n 0, 1), (2, .getfield 267, 3), (5, .putfield 277, 3), (8, .aload_n 0, 1), (9, .getfield 277, 3), (12, .aload_n 0, 1), (13, .getfield 255, 3), (16, .if_icmp .ge 30, 3), (19, .aload_n 0, 1), (20, .getfield 35, 3), (23, .aload_n 0, 1), (24, .getfield 277, 3), (27, .iaload, 1), (28, .bipush 32, 2), (30, .if_icmp .ne 16, 3), (33, .aload_n 0, 1), (34, .dup, 1), (35, .getfield 277, 3), (38, .iconst 1, 1), (39, .iadd, 1), (40, .putfield 277, 3), (43, .goto (-35), 3), (46, .aload_n 0, 1), (47, .aload_n 0, 1), (48, .getfield 277, 3), (51, .putfield 267, 3), (54, .aload_n 0, 1), (55, .lconst 0, 1), (56, .putfield 280, 3), (59, .aload_n 0, 1), (60, .aload_n 0, 1), (61, .getfield 277, 3), (64, .aload_n 0, 1), (65, .getfield 255, 3), (68, .if_icmp .ne 7, 3), (71, .iconst 0, 1), (72, .goto 42, 3), (75, .aload_n 0, 1), (76, .getfield 35, 3), (79, .aload_n 0, 1), (80, .getfield 277, 3), (83, .iaload, 1), (84, .invokestatic 284, 3), (87, .ifCond .eq 7, 3), (90, .iconst 1, 1), (91, .goto 23, 3), (94, .aload_n 0, 1), (95, .getfield 35, 3), (98, .aload_n 0, 1), (99, .getfield 277, 3), (102, .iaload, 1), (103, .invokestatic 287, 3), (106, .ifCond .eq 7, 3), (109, .iconst 2, 1), (110, .goto 4, 3), (113, .iconst 3, 1), (114, .putfield 290, 3), (117, .aload_n 0, 1), (118, .getfield 290, 3), (121, .iconst 3, 1), (122, .if_icmp .ne 27, 3), (125, .aload_n 0, 1), (126, .aload_n 0, 1), (127, .getfield 35, 3), (130, .aload_n 0, 1), (131, .getfield 277, 3), (134, .iaload, 1), (135, .i2l, 1), (136, .putfield 280, 3), (139, .aload_n 0, 1), (140, .dup, 1), (141, .getfield 267, 3), (144, .iconst 1, 1), (145, .iadd, 1), (146, .putfield 267, 3), (149, .aload_n 0, 1), (150, .getfield 290, 3), (153, .iconst 1, 1), (154, .if_icmp .ne 89, 3), (157, .aload_n 0, 1), (158, .getfield 267, 3), (161, .aload_n 0, 1), (162, .getfield 255, 3), (165, .if_icmp .ge 78, 3), (168, .aload_n 0, 1), (169, .getfield 35, 3), (172, .aload_n 0, 1), (173, .getfield 267, 3), (176, .iaload, 1), (177, .invokestatic 284, 3), (180, .ifCond .eq 63, 3), (183, .aload_n 0, 1), (184, .aload_n 0, 1), (185, .getfield 267, 3), (188, .aload_n 0, 1), (189, .getfield 277, 3), (192, .isub, 1), (193, .bipush 10, 2), (195, .if_icmp .ge 29, 3), (198, .aload_n 0, 1), (199, .getfield 280, 3), (202, .ldc2_w 293, 3), (205, .lmul, 1), (206, .aload_n 0, 1), (207, .getfield 35, 3), (210, .aload_n 0, 1), (211, .getfield 267, 3), (214, .iaload, 1), (215, .i2l, 1), (216, .ladd, 1), (217, .ldc2_w 295, 3), (220, .lsub, 1), (221, .goto 6, 3), (224, .ldc2_w 297, 3), (227, .putfield 280, 3), (230, .aload_n 0, 1), (231, .dup, 1), (232, .getfield 267, 3), (235, .iconst 1, 1), (236, .iadd, 1), (237, .putfield 267, 3), (240, .goto (-91), 3), (243, .aload_n 0, 1), (244, .getfield 290, 3), (247, .iconst 2, 1), (248, .if_icmp .ne 87, 3), (251, .aload_n 0, 1), (252, .getfield 267, 3), (255, .aload_n 0, 1), (256, .getfield 255, 3), (259, .if_icmp .ge 76, 3), (262, .aload_n 0, 1), (263, .getfield 35, 3), (266, .aload_n 0, 1), (267, .getfield 267, 3), (270, .iaload, 1), (271, .invokestatic 287, 3), (274, .ifCond .eq 61, 3), (277, .aload_n 0, 1), (278, .aload_n 0, 1), (279, .getfield 280, 3), (282, .ldc2_w 299, 3), (285, .lcmp, 1), (286, .ifCond .le 10, 3), (289, .aload_n 0, 1), (290, .getfield 280, 3), (293, .goto 26, 3), (296, .aload_n 0, 1), (297, .getfield 280, 3), (300, .ldc2_w 244, 3), (303, .lmul, 1), (304, .aload_n 0, 1), (305, .getfield 35, 3), (308, .aload_n 0, 1), (309, .getfield 267, 3), (312, .iaload, 1), (313, .i2l, 1), (314, .ladd, 1), (315, .ldc2_w 301, 3), (318, .lsub, 1), (319, .putfield 280, 3), (322, .aload_n 0, 1), (323, .dup, 1), (324, .getfield 267, 3), (327, .iconst 1, 1), (328, .iadd, 1), (329, .putfield 267, 3), (332, .goto (-89), 3), (335, .return_, 1)]
theorem dX12_next : ∀ q ∈ tbX12_next, decode prog_14_method_34_code q.1 = .ok q.2 := by decide +kernel
set_option maxRecDepth 20000 in
theorem cX12_next (l : Launch) (w : WX) (hL : Lay w) (t : Nat) (ht : Wat w t 12 0) (M : Mem) : Ct l w yX12_next prog_14_method_34_code 1 (Option.none : Option FieldType) 1 20 evU emU [.ref t] M (FX12_next t M) := by
  refine ct_of (by decide) (Nat.le_of_ble_eq_true rfl) (fun x hl hx hb hz => ?_)
  subst hl
  have hd : ∀ i, DAt (xc x).code (tbX12_next[i]?) := fun i => by rw [hb]; exact dat_of dX12_next i
  show C x w (Qn x w evU emU) 1 0 [(0, .ref t)] [] M (FX12_next t M)
  unfold FX12_next
  refine r_aload_n (pc' := 1) hx (hd 0) rfl 0 rfl rfl ?_
  refine r_aload_n (pc' := 2) hx (hd 1) rfl 0 rfl rfl ?_
  refine r_get (pc' := 5) (v := .int (mI M t 15)) hx (hd 2) fl_12_267 ht rfl (by decide) rfl ?_
  refine r_putI (pc' := 8) hx (hd 3) fp_12_277 ht rfl (by decide) rfl (fun M1 => ?_)
  refine r_wl1 (fun M2 => [(0, .ref t)]) (fun M2 => []) (fun M2 => M2) (fun M2 rec3 ih4 => ?_) fuel M1
  refine r_aload_n (pc' := 9) hx (hd 4) rfl 0 rfl rfl ?_
  refine r_get (pc' := 12) (v := .int (mI M2 t 14)) hx (hd 5) fl_12_277 ht rfl (by decide) rfl ?_
  refine r_aload_n (pc' := 13) hx (hd 6) rfl 0 rfl rfl ?_
  refine r_get (pc' := 16) (v := .int (mI M2 t 13)) hx (hd 7) fl_12_255 ht rfl (by decide) rfl ?_
  refine r_jn0 46 ([(0, .ref t)]) ([]) (M2) (?_) (fun j5 hj6 => ?_)
  · skip
    refine r_aload_n (pc' := 47) hx (hd 23) rfl 0 rfl rfl ?_
    refine r_aload_n (pc' := 48) hx (hd 24) rfl 0 rfl rfl ?_
    refine r_get (pc' := 51) (v := .int (mI M2 t 14)) hx (hd 25) fl_12_277 ht rfl (by decide) rfl ?_
    refine r_putI (pc' := 54) hx (hd 26) fp_12_267 ht rfl (by decide) rfl (fun M7 => ?_)
    refine r_aload_n (pc' := 55) hx (hd 27) rfl 0 rfl rfl ?_
    refine r_lconst (pc' := 56) (v := 0) hx (hd 28) (by decide) rfl ?_
    refine r_putJ (pc' := 59) hx (hd 29) fp_12_280 ht rfl (by decide) rfl (fun M8 => ?_)
    refine r_aload_n (pc' := 60) hx (hd 30) rfl 0 rfl rfl ?_
    refine r_aload_n (pc' := 61) hx (hd 31) rfl 0 rfl rfl ?_
    refine r_get (pc' := 64) (v := .int (mI M8 t 14)) hx (hd 32) fl_12_277 ht rfl (by decide) rfl ?_
    refine r_aload_n (pc' := 65) hx (hd 33) rfl 0 rfl rfl ?_
    refine r_get (pc' := 68) (v := .int (mI M8 t 13)) hx (hd 34) fl_12_255 ht rfl (by decide) rfl ?_
    refine r_jn1 114 (fun v9 => [(0, .ref t)]) (fun v9 => [.int v9, .ref t]) (fun v9 => M8) (fun v9 => ?_) (fun j10 hj11 => ?_)
    · skip
      refine r_putI (pc' := 117) hx (hd 57) fp_12_290 ht rfl (by decide) rfl (fun M12 => ?_)
      refine r_aload_n (pc' := 118) hx (hd 58) rfl 0 rfl rfl ?_
      refine r_get (pc' := 121) (v := .int (mI M12 t 16)) hx (hd 59) fl_12_290 ht rfl (by decide) rfl ?_
      refine r_iconst (pc' := 122) (v := 3) hx (hd 60) (by decide) rfl ?_
      refine r_jn1 149 (fun M13 => [(0, .ref t)]) (fun M13 => []) (fun M13 => M13) (fun M13 => ?_) (fun j14 hj15 => ?_)
      · skip
        refine r_wl1 (fun M16 => [(0, .ref t)]) (fun M16 => []) (fun M16 => M16) (fun M16 rec17 ih18 => ?_) fuel M13
        refine r_aload_n (pc' := 150) hx (hd 76) rfl 0 rfl rfl ?_
        refine r_get (pc' := 153) (v := .int (mI M16 t 16)) hx (hd 77) fl_12_290 ht rfl (by decide) rfl ?_
        refine r_iconst (pc' := 154) (v := 1) hx (hd 78) (by decide) rfl ?_
        refine r_jn0 243 ([(0, .ref t)]) ([]) (M16) (?_) (fun j19 hj20 => ?_)
        · skip
          refine r_wl1 (fun M21 => [(0, .ref t)]) (fun M21 => []) (fun M21 => M21) (fun M21 rec22 ih23 => ?_) fuel M16
          refine r_aload_n (pc' := 244) hx (hd 123) rfl 0 rfl rfl ?_
          refine r_get (pc' := 247) (v := .int (mI M21 t 16)) hx (hd 124) fl_12_290 ht rfl (by decide) rfl ?_
          refine r_iconst (pc' := 248) (v := 2) hx (hd 125) (by decide) rfl ?_
          refine r_jn0 335 ([]) ([]) (M21) (?_) (fun j24 hj25 => ?_)
          · skip
            exact r_vret hx (hd 169) rfl rfl hz
          refine r_icmp_ne (tgt := 335) (pc' := 251) hx (hd 126) (by decide) (fun _ => ?_) rfl (fun _ => ?_)
          · skip
            refine r_sub [] rfl ?_
            exact hj25
          · skip
            refine r_aload_n (pc' := 252) hx (hd 127) rfl 0 rfl rfl ?_
            refine r_get (pc' := 255) (v := .int (mI M21 t 15)) hx (hd 128) fl_12_267 ht rfl (by decide) rfl ?_
            refine r_aload_n (pc' := 256) hx (hd 129) rfl 0 rfl rfl ?_
            refine r_get (pc' := 259) (v := .int (mI M21 t 13)) hx (hd 130) fl_12_255 ht rfl (by decide) rfl ?_
            refine r_icmp_ge (tgt := 335) (pc' := 262) hx (hd 131) (by decide) (fun _ => ?_) rfl (fun _ => ?_)
            · skip
              refine r_sub [] rfl ?_
              exact hj25
            · skip
              refine r_aload_n (pc' := 263) hx (hd 132) rfl 0 rfl rfl ?_
              refine r_get (pc' := 266) (v := .ref (t + 9)) hx (hd 133) fl_12_35 ht rfl (by decide) rfl ?_
              have h26 := hL.1 _ _ _ ht 12 9 20 400 rfl
              refine r_aload_n (pc' := 267) hx (hd 134) rfl 0 rfl rfl ?_
              refine r_get (pc' := 270) (v := .int (mI M21 t 15)) hx (hd 135) fl_12_267 ht rfl (by decide) rfl ?_
              refine r_gd (fun h27 => ?_)
              refine r_iald (pc' := 271) (k := ix (mI M21 t 15)) hx (hd 136) h26 h27 rfl rfl ?_
              refine r_callS (pc' := 274) (As := [.int (mI M21 (t + 9) (ix (mI M21 t 15)))]) (rest := []) hx (hd 137) md_X12_isDigit mst_X12_isDigit ml_12_287 (cX12_isDigit (xl x) w hL (mI M21 (t + 9) (ix (mI M21 t 15))) M21) ⟨Nat.le_of_ble_eq_true rfl, Nat.le_of_ble_eq_true rfl⟩ rfl rfl (Nat.le_of_ble_eq_true rfl) (fun r28 => .int r28 :: []) (fun _ => M21) (fun _ => ⟨rfl, rfl⟩) rfl (fun r28 _ => ?_)
              refine r_if_eq (tgt := 335) (pc' := 277) hx (hd 138) (by decide) (fun _ => ?_) rfl (fun _ => ?_)
              · skip
                refine r_sub [] rfl ?_
                exact hj25
              · skip
                refine r_aload_n (pc' := 278) hx (hd 139) rfl 0 rfl rfl ?_
                refine r_aload_n (pc' := 279) hx (hd 140) rfl 0 rfl rfl ?_
                refine r_get (pc' := 282) (v := .long (mJ M21 t 17)) hx (hd 141) fl_12_280 ht rfl (by decide) rfl ?_
                refine r_ldc2 (pc' := 285) hx (hd 142) kc_12_299 rfl ?_
                refine r_jn1 319 (fun v29 => [(0, .ref t)]) (fun v29 => [.long v29, .ref t]) (fun v29 => M21) (fun v29 => ?_) (fun j30 hj31 => ?_)
                · skip
                  refine r_putJ (pc' := 322) hx (hd 161) fp_12_280 ht rfl (by decide) rfl (fun M32 => ?_)
                  refine r_aload_n (pc' := 323) hx (hd 162) rfl 0 rfl rfl ?_
                  refine r_dup (pc' := 324) hx (hd 163) rfl rfl ?_
                  refine r_get (pc' := 327) (v := .int (mI M32 t 15)) hx (hd 164) fl_12_267 ht rfl (by decide) rfl ?_
                  refine r_iconst (pc' := 328) (v := 1) hx (hd 165) (by decide) rfl ?_
                  refine r_iadd (pc' := 329) hx (hd 166) rfl ?_
                  refine r_putI (pc' := 332) hx (hd 167) fp_12_267 ht rfl (by decide) rfl (fun M33 => ?_)
                  refine r_goto (tgt := 243) hx (hd 168) (by decide) ?_
                  exact ih23 M33
                refine r_lcmp_le (tgt := 296) (pc' := 289) hx (hd 143) (hd 144) (by decide) (fun _ => ?_) rfl (fun _ => ?_)
                · skip
                  refine r_aload_n (pc' := 297) hx (hd 148) rfl 0 rfl rfl ?_
                  refine r_get (pc' := 300) (v := .long (mJ M21 t 17)) hx (hd 149) fl_12_280 ht rfl (by decide) rfl ?_
                  refine r_ldc2 (pc' := 303) hx (hd 150) kc_12_244 rfl ?_
                  refine r_lmul (pc' := 304) hx (hd 151) rfl ?_
                  refine r_aload_n (pc' := 305) hx (hd 152) rfl 0 rfl rfl ?_
                  refine r_get (pc' := 308) (v := .ref (t + 9)) hx (hd 153) fl_12_35 ht rfl (by decide) rfl ?_
                  have h34 := hL.1 _ _ _ ht 12 9 20 400 rfl
                  refine r_aload_n (pc' := 309) hx (hd 154) rfl 0 rfl rfl ?_
                  refine r_get (pc' := 312) (v := .int (mI M21 t 15)) hx (hd 155) fl_12_267 ht rfl (by decide) rfl ?_
                  refine r_gd (fun h35 => ?_)
                  refine r_iald (pc' := 313) (k := ix (mI M21 t 15)) hx (hd 156) h34 h35 rfl rfl ?_
                  refine r_i2l (pc' := 314) hx (hd 157) rfl ?_
                  refine r_ladd (pc' := 315) hx (hd 158) rfl ?_
                  refine r_ldc2 (pc' := 318) hx (hd 159) kc_12_301 rfl ?_
                  refine r_lsub (pc' := 319) hx (hd 160) rfl ?_
                  exact hj31 ((((mJ M21 t 17) * 10) + ((mI M21 (t + 9) (ix (mI M21 t 15))).toInt64)) - 48)
                · skip
                  refine r_aload_n (pc' := 290) hx (hd 145) rfl 0 rfl rfl ?_
                  refine r_get (pc' := 293) (v := .long (mJ M21 t 17)) hx (hd 146) fl_12_280 ht rfl (by decide) rfl ?_
                  refine r_goto (tgt := 319) hx (hd 147) (by decide) ?_
                  exact hj31 (mJ M21 t 17)
        refine r_icmp_ne (tgt := 243) (pc' := 157) hx (hd 79) (by decide) (fun _ => ?_) rfl (fun _ => ?_)
        · skip
          exact hj20
        · skip
          refine r_aload_n (pc' := 158) hx (hd 80) rfl 0 rfl rfl ?_
          refine r_get (pc' := 161) (v := .int (mI M16 t 15)) hx (hd 81) fl_12_267 ht rfl (by decide) rfl ?_
          refine r_aload_n (pc' := 162) hx (hd 82) rfl 0 rfl rfl ?_
          refine r_get (pc' := 165) (v := .int (mI M16 t 13)) hx (hd 83) fl_12_255 ht rfl (by decide) rfl ?_
          refine r_icmp_ge (tgt := 243) (pc' := 168) hx (hd 84) (by decide) (fun _ => ?_) rfl (fun _ => ?_)
          · skip
            exact hj20
          · skip
            refine r_aload_n (pc' := 169) hx (hd 85) rfl 0 rfl rfl ?_
            refine r_get (pc' := 172) (v := .ref (t + 9)) hx (hd 86) fl_12_35 ht rfl (by decide) rfl ?_
            have h36 := hL.1 _ _ _ ht 12 9 20 400 rfl
            refine r_aload_n (pc' := 173) hx (hd 87) rfl 0 rfl rfl ?_
            refine r_get (pc' := 176) (v := .int (mI M16 t 15)) hx (hd 88) fl_12_267 ht rfl (by decide) rfl ?_
            refine r_gd (fun h37 => ?_)
            refine r_iald (pc' := 177) (k := ix (mI M16 t 15)) hx (hd 89) h36 h37 rfl rfl ?_
            refine r_callS (pc' := 180) (As := [.int (mI M16 (t + 9) (ix (mI M16 t 15)))]) (rest := []) hx (hd 90) md_X12_isSmall mst_X12_isSmall ml_12_284 (cX12_isSmall (xl x) w hL (mI M16 (t + 9) (ix (mI M16 t 15))) M16) ⟨Nat.le_of_ble_eq_true rfl, Nat.le_of_ble_eq_true rfl⟩ rfl rfl (Nat.le_of_ble_eq_true rfl) (fun r38 => .int r38 :: []) (fun _ => M16) (fun _ => ⟨rfl, rfl⟩) rfl (fun r38 _ => ?_)
            refine r_if_eq (tgt := 243) (pc' := 183) hx (hd 91) (by decide) (fun _ => ?_) rfl (fun _ => ?_)
            · skip
              exact hj20
            · skip
              refine r_aload_n (pc' := 184) hx (hd 92) rfl 0 rfl rfl ?_
              refine r_aload_n (pc' := 185) hx (hd 93) rfl 0 rfl rfl ?_
              refine r_get (pc' := 188) (v := .int (mI M16 t 15)) hx (hd 94) fl_12_267 ht rfl (by decide) rfl ?_
              refine r_aload_n (pc' := 189) hx (hd 95) rfl 0 rfl rfl ?_
              refine r_get (pc' := 192) (v := .int (mI M16 t 14)) hx (hd 96) fl_12_277 ht rfl (by decide) rfl ?_
              refine r_isub (pc' := 193) hx (hd 97) rfl ?_
              refine r_bipush (pc' := 195) (v := 10) hx (hd 98) (by decide) rfl ?_
              refine r_jn1 227 (fun v39 => [(0, .ref t)]) (fun v39 => [.long v39, .ref t]) (fun v39 => M16) (fun v39 => ?_) (fun j40 hj41 => ?_)
              · skip
                refine r_putJ (pc' := 230) hx (hd 115) fp_12_280 ht rfl (by decide) rfl (fun M42 => ?_)
                refine r_aload_n (pc' := 231) hx (hd 116) rfl 0 rfl rfl ?_
                refine r_dup (pc' := 232) hx (hd 117) rfl rfl ?_
                refine r_get (pc' := 235) (v := .int (mI M42 t 15)) hx (hd 118) fl_12_267 ht rfl (by decide) rfl ?_
                refine r_iconst (pc' := 236) (v := 1) hx (hd 119) (by decide) rfl ?_
                refine r_iadd (pc' := 237) hx (hd 120) rfl ?_
                refine r_putI (pc' := 240) hx (hd 121) fp_12_267 ht rfl (by decide) rfl (fun M43 => ?_)
                refine r_goto (tgt := 149) hx (hd 122) (by decide) ?_
                exact ih18 M43
              refine r_icmp_ge (tgt := 224) (pc' := 198) hx (hd 99) (by decide) (fun _ => ?_) rfl (fun _ => ?_)
              · skip
                refine r_ldc2 (pc' := 227) hx (hd 114) kc_12_297 rfl ?_
                exact hj41 (-1)
              · skip
                refine r_aload_n (pc' := 199) hx (hd 100) rfl 0 rfl rfl ?_
                refine r_get (pc' := 202) (v := .long (mJ M16 t 17)) hx (hd 101) fl_12_280 ht rfl (by decide) rfl ?_
                refine r_ldc2 (pc' := 205) hx (hd 102) kc_12_293 rfl ?_
                refine r_lmul (pc' := 206) hx (hd 103) rfl ?_
                refine r_aload_n (pc' := 207) hx (hd 104) rfl 0 rfl rfl ?_
                refine r_get (pc' := 210) (v := .ref (t + 9)) hx (hd 105) fl_12_35 ht rfl (by decide) rfl ?_
                have h44 := hL.1 _ _ _ ht 12 9 20 400 rfl
                refine r_aload_n (pc' := 211) hx (hd 106) rfl 0 rfl rfl ?_
                refine r_get (pc' := 214) (v := .int (mI M16 t 15)) hx (hd 107) fl_12_267 ht rfl (by decide) rfl ?_
                refine r_gd (fun h45 => ?_)
                refine r_iald (pc' := 215) (k := ix (mI M16 t 15)) hx (hd 108) h44 h45 rfl rfl ?_
                refine r_i2l (pc' := 216) hx (hd 109) rfl ?_
                refine r_ladd (pc' := 217) hx (hd 110) rfl ?_
                refine r_ldc2 (pc' := 220) hx (hd 111) kc_12_295 rfl ?_
                refine r_lsub (pc' := 221) hx (hd 112) rfl ?_
                refine r_goto (tgt := 227) hx (hd 113) (by decide) ?_
                exact hj41 ((((mJ M16 t 17) * 32) + ((mI M16 (t + 9) (ix (mI M16 t 15))).toInt64)) - 96)
      refine r_icmp_ne (tgt := 149) (pc' := 125) hx (hd 61) (by decide) (fun _ => ?_) rfl (fun _ => ?_)
      · skip
        exact hj15 M12
      · skip
        refine r_aload_n (pc' := 126) hx (hd 62) rfl 0 rfl rfl ?_
        refine r_aload_n (pc' := 127) hx (hd 63) rfl 0 rfl rfl ?_
        refine r_get (pc' := 130) (v := .ref (t + 9)) hx (hd 64) fl_12_35 ht rfl (by decide) rfl ?_
        have h46 := hL.1 _ _ _ ht 12 9 20 400 rfl
        refine r_aload_n (pc' := 131) hx (hd 65) rfl 0 rfl rfl ?_
        refine r_get (pc' := 134) (v := .int (mI M12 t 14)) hx (hd 66) fl_12_277 ht rfl (by decide) rfl ?_
        refine r_gd (fun h47 => ?_)
        refine r_iald (pc' := 135) (k := ix (mI M12 t 14)) hx (hd 67) h46 h47 rfl rfl ?_
        refine r_i2l (pc' := 136) hx (hd 68) rfl ?_
        refine r_putJ (pc' := 139) hx (hd 69) fp_12_280 ht rfl (by decide) rfl (fun M48 => ?_)
        refine r_aload_n (pc' := 140) hx (hd 70) rfl 0 rfl rfl ?_
        refine r_dup (pc' := 141) hx (hd 71) rfl rfl ?_
        refine r_get (pc' := 144) (v := .int (mI M48 t 15)) hx (hd 72) fl_12_267 ht rfl (by decide) rfl ?_
        refine r_iconst (pc' := 145) (v := 1) hx (hd 73) (by decide) rfl ?_
        refine r_iadd (pc' := 146) hx (hd 74) rfl ?_
        refine r_putI (pc' := 149) hx (hd 75) fp_12_267 ht rfl (by decide) rfl (fun M49 => ?_)
        exact hj15 M49
    refine r_icmp_ne (tgt := 75) (pc' := 71) hx (hd 35) (by decide) (fun _ => ?_) rfl (fun _ => ?_)
    · skip
      refine r_aload_n (pc' := 76) hx (hd 38) rfl 0 rfl rfl ?_
      refine r_get (pc' := 79) (v := .ref (t + 9)) hx (hd 39) fl_12_35 ht rfl (by decide) rfl ?_
      have h50 := hL.1 _ _ _ ht 12 9 20 400 rfl
      refine r_aload_n (pc' := 80) hx (hd 40) rfl 0 rfl rfl ?_
      refine r_get (pc' := 83) (v := .int (mI M8 t 14)) hx (hd 41) fl_12_277 ht rfl (by decide) rfl ?_
      refine r_gd (fun h51 => ?_)
      refine r_iald (pc' := 84) (k := ix (mI M8 t 14)) hx (hd 42) h50 h51 rfl rfl ?_
      refine r_callS (pc' := 87) (As := [.int (mI M8 (t + 9) (ix (mI M8 t 14)))]) (rest := [.ref t]) hx (hd 43) md_X12_isSmall mst_X12_isSmall ml_12_284 (cX12_isSmall (xl x) w hL (mI M8 (t + 9) (ix (mI M8 t 14))) M8) ⟨Nat.le_of_ble_eq_true rfl, Nat.le_of_ble_eq_true rfl⟩ rfl rfl (Nat.le_of_ble_eq_true rfl) (fun r52 => .int r52 :: [.ref t]) (fun _ => M8) (fun _ => ⟨rfl, rfl⟩) rfl (fun r52 _ => ?_)
      refine r_if_eq (tgt := 94) (pc' := 90) hx (hd 44) (by decide) (fun _ => ?_) rfl (fun _ => ?_)
      · skip
        refine r_aload_n (pc' := 95) hx (hd 47) rfl 0 rfl rfl ?_
        refine r_get (pc' := 98) (v := .ref (t + 9)) hx (hd 48) fl_12_35 ht rfl (by decide) rfl ?_
        have h53 := hL.1 _ _ _ ht 12 9 20 400 rfl
        refine r_aload_n (pc' := 99) hx (hd 49) rfl 0 rfl rfl ?_
        refine r_get (pc' := 102) (v := .int (mI M8 t 14)) hx (hd 50) fl_12_277 ht rfl (by decide) rfl ?_
        refine r_gd (fun h54 => ?_)
        refine r_iald (pc' := 103) (k := ix (mI M8 t 14)) hx (hd 51) h53 h54 rfl rfl ?_
        refine r_callS (pc' := 106) (As := [.int (mI M8 (t + 9) (ix (mI M8 t 14)))]) (rest := [.ref t]) hx (hd 52) md_X12_isDigit mst_X12_isDigit ml_12_287 (cX12_isDigit (xl x) w hL (mI M8 (t + 9) (ix (mI M8 t 14))) M8) ⟨Nat.le_of_ble_eq_true rfl, Nat.le_of_ble_eq_true rfl⟩ rfl rfl (Nat.le_of_ble_eq_true rfl) (fun r55 => .int r55 :: [.ref t]) (fun _ => M8) (fun _ => ⟨rfl, rfl⟩) rfl (fun r55 _ => ?_)
        refine r_if_eq (tgt := 113) (pc' := 109) hx (hd 53) (by decide) (fun _ => ?_) rfl (fun _ => ?_)
        · skip
          refine r_iconst (pc' := 114) (v := 3) hx (hd 56) (by decide) rfl ?_
          exact hj11 3
        · skip
          refine r_iconst (pc' := 110) (v := 2) hx (hd 54) (by decide) rfl ?_
          refine r_goto (tgt := 114) hx (hd 55) (by decide) ?_
          exact hj11 2
      · skip
        refine r_iconst (pc' := 91) (v := 1) hx (hd 45) (by decide) rfl ?_
        refine r_goto (tgt := 114) hx (hd 46) (by decide) ?_
        exact hj11 1
    · skip
      refine r_iconst (pc' := 72) (v := 0) hx (hd 36) (by decide) rfl ?_
      refine r_goto (tgt := 114) hx (hd 37) (by decide) ?_
      exact hj11 0
  refine r_icmp_ge (tgt := 46) (pc' := 19) hx (hd 8) (by decide) (fun _ => ?_) rfl (fun _ => ?_)
  · skip
    exact hj6
  · skip
    refine r_aload_n (pc' := 20) hx (hd 9) rfl 0 rfl rfl ?_
    refine r_get (pc' := 23) (v := .ref (t + 9)) hx (hd 10) fl_12_35 ht rfl (by decide) rfl ?_
    have h56 := hL.1 _ _ _ ht 12 9 20 400 rfl
    refine r_aload_n (pc' := 24) hx (hd 11) rfl 0 rfl rfl ?_
    refine r_get (pc' := 27) (v := .int (mI M2 t 14)) hx (hd 12) fl_12_277 ht rfl (by decide) rfl ?_
    refine r_gd (fun h57 => ?_)
    refine r_iald (pc' := 28) (k := ix (mI M2 t 14)) hx (hd 13) h56 h57 rfl rfl ?_
    refine r_bipush (pc' := 30) (v := 32) hx (hd 14) (by decide) rfl ?_
    refine r_icmp_ne (tgt := 46) (pc' := 33) hx (hd 15) (by decide) (fun _ => ?_) rfl (fun _ => ?_)
    · skip
      exact hj6
    · skip
      refine r_aload_n (pc' := 34) hx (hd 16) rfl 0 rfl rfl ?_
      refine r_dup (pc' := 35) hx (hd 17) rfl rfl ?_
      refine r_get (pc' := 38) (v := .int (mI M2 t 14)) hx (hd 18) fl_12_277 ht rfl (by decide) rfl ?_
      refine r_iconst (pc' := 39) (v := 1) hx (hd 19) (by decide) rfl ?_
      refine r_iadd (pc' := 40) hx (hd 20) rfl ?_
      refine r_putI (pc' := 43) hx (hd 21) fp_12_277 ht rfl (by decide) rfl (fun M58 => ?_)
      refine r_goto (tgt := 8) hx (hd 22) (by decide) ?_
      exact ih4 M58
abbrev yX12_begin : MethodName := ({ cls := "CribbageRoomModel", name := "begin", desc := "()V" } : Jvm.MethodName)
def tbX12_begin : List (Nat × Instr × Nat) := [(0, .aload_n 0, 1), (1, .iconst 0, 1), (2, .putfield 267, 3), (5, .aload_n 0, 1), (6, .iconst 0, 1), (7, .putfield 270, 3), (10, .aload_n 0, 1), (11, .iconst (-1), 1), (12, .putfield 38, 3), (15, .aload_n 0, 1), (16, .invokevirtual 274, 3), (19, .return_, 1)]
theorem dX12_begin : ∀ q ∈ tbX12_begin, decode prog_14_method_33_code q.1 = .ok q.2 := by decide +kernel
set_option maxRecDepth 20000 in
theorem cX12_begin (l : Launch) (w : WX) (hL : Lay w) (t : Nat) (ht : Wat w t 12 0) (M : Mem) : Ct l w yX12_begin prog_14_method_33_code 1 (Option.none : Option FieldType) 2 40 evU emU [.ref t] M (FX12_begin t M) := by
  refine ct_of (by decide) (Nat.le_of_ble_eq_true rfl) (fun x hl hx hb hz => ?_)
  subst hl
  have hd : ∀ i, DAt (xc x).code (tbX12_begin[i]?) := fun i => by rw [hb]; exact dat_of dX12_begin i
  show C x w (Qn x w evU emU) 1 0 [(0, .ref t)] [] M (FX12_begin t M)
  unfold FX12_begin
  refine r_aload_n (pc' := 1) hx (hd 0) rfl 0 rfl rfl ?_
  refine r_iconst (pc' := 2) (v := 0) hx (hd 1) (by decide) rfl ?_
  refine r_putI (pc' := 5) hx (hd 2) fp_12_267 ht rfl (by decide) rfl (fun M1 => ?_)
  refine r_aload_n (pc' := 6) hx (hd 3) rfl 0 rfl rfl ?_
  refine r_iconst (pc' := 7) (v := 0) hx (hd 4) (by decide) rfl ?_
  refine r_putZ (pc' := 10) hx (hd 5) fp_12_270 ht rfl (by decide) rfl rfl (fun M2 => ?_)
  refine r_aload_n (pc' := 11) hx (hd 6) rfl 0 rfl rfl ?_
  refine r_iconst (pc' := 12) (v := (-1)) hx (hd 7) (by decide) rfl ?_
  refine r_putI (pc' := 15) hx (hd 8) fp_12_38 ht rfl (by decide) rfl (fun M3 => ?_)
  refine r_aload_n (pc' := 16) hx (hd 9) rfl 0 rfl rfl ?_
  refine r_callVU (pc' := 19) (As := []) (rest := []) hx (hd 10) md_X12_next mi_X12_next ms_X12_next ml_12_274 (cX12_next (xl x) w hL t ht M3) ht rfl (by decide) ⟨Nat.le_of_ble_eq_true rfl, Nat.le_of_ble_eq_true rfl⟩ rfl rfl (Nat.le_of_ble_eq_true rfl) rfl (fun M4 => ?_)
  exact r_vret hx (hd 11) rfl rfl hz
abbrev yX12_beginText : MethodName := ({ cls := "CribbageRoomModel", name := "beginText", desc := "(Z)V" } : Jvm.MethodName)
def tbX12_beginText : List (Nat × Instr × Nat) := [(0, .aload_n 0, 1), (1, .iload_n 1, 1), (2, .putfield 347, 3), (5, .aload_n 0, 1), (6, .invokevirtual 398, 3), (9, .aload_n 0, 1), (10, .iconst 0, 1), (11, .putfield 401, 3), (14, .aload_n 0, 1), (15, .iconst 0, 1), (16, .putfield 307, 3), (19, .aload_n 0, 1), (20, .iconst 0, 1), (21, .putfield 338, 3), (24, .return_, 1)]
theorem dX12_beginText : ∀ q ∈ tbX12_beginText, decode prog_14_method_55_code q.1 = .ok q.2 := by decide +kernel
set_option maxRecDepth 20000 in
theorem cX12_beginText (l : Launch) (w : WX) (hL : Lay w) (t : Nat) (ht : Wat w t 12 0) (p1 : Int32) (M : Mem) : Ct l w yX12_beginText prog_14_method_55_code 2 (Option.none : Option FieldType) 3 60 evU emU [.ref t, .int p1] M (FX12_beginText t p1 M) := by
  refine ct_of (by decide) (Nat.le_of_ble_eq_true rfl) (fun x hl hx hb hz => ?_)
  subst hl
  have hd : ∀ i, DAt (xc x).code (tbX12_beginText[i]?) := fun i => by rw [hb]; exact dat_of dX12_beginText i
  show C x w (Qn x w evU emU) 2 0 [(0, .ref t), (1, .int p1)] [] M (FX12_beginText t p1 M)
  unfold FX12_beginText
  refine r_aload_n (pc' := 1) hx (hd 0) rfl 0 rfl rfl ?_
  refine r_iload_n (pc' := 2) hx (hd 1) rfl 1 rfl rfl ?_
  refine r_gd (fun h2 => ?_)
  refine r_putZ (pc' := 5) hx (hd 2) fp_12_347 ht rfl (by decide) h2 rfl (fun M1 => ?_)
  refine r_aload_n (pc' := 6) hx (hd 3) rfl 0 rfl rfl ?_
  refine r_callVU (pc' := 9) (As := []) (rest := []) hx (hd 4) md_X12_begin mi_X12_begin ms_X12_begin ml_12_398 (cX12_begin (xl x) w hL t ht M1) ht rfl (by decide) ⟨Nat.le_of_ble_eq_true rfl, Nat.le_of_ble_eq_true rfl⟩ rfl rfl (Nat.le_of_ble_eq_true rfl) rfl (fun M3 => ?_)
  refine r_aload_n (pc' := 10) hx (hd 5) rfl 0 rfl rfl ?_
  refine r_iconst (pc' := 11) (v := 0) hx (hd 6) (by decide) rfl ?_
  refine r_putI (pc' := 14) hx (hd 7) fp_12_401 ht rfl (by decide) rfl (fun M4 => ?_)
  refine r_aload_n (pc' := 15) hx (hd 8) rfl 0 rfl rfl ?_
  refine r_iconst (pc' := 16) (v := 0) hx (hd 9) (by decide) rfl ?_
  refine r_putI (pc' := 19) hx (hd 10) fp_12_307 ht rfl (by decide) rfl (fun M5 => ?_)
  refine r_aload_n (pc' := 20) hx (hd 11) rfl 0 rfl rfl ?_
  refine r_iconst (pc' := 21) (v := 0) hx (hd 12) (by decide) rfl ?_
  refine r_putI (pc' := 24) hx (hd 13) fp_12_338 ht rfl (by decide) rfl (fun M6 => ?_)
  exact r_vret hx (hd 14) rfl rfl hz
abbrev yX12_isWord : MethodName := ({ cls := "CribbageRoomModel", name := "isWord", desc := "(J)Z" } : Jvm.MethodName)
def tbX12_isWord : List (Nat × Instr × Nat) := [(0, .aload_n 0, 1), (1, .getfield 290, 3), (4, .iconst 1, 1), (5, .if_icmp .ne 16, 3), (8, .aload_n 0, 1), (9, .getfield 280, 3), (12, .lload_n 1, 1), (13, .lcmp, 1), (14, .ifCond .ne 7, 3), (17, .iconst 1, 1), (18, .goto 4, 3), (21, .iconst 0, 1), (22, .ireturn, 1)]
theorem dX12_isWord : ∀ q ∈ tbX12_isWord, decode prog_14_method_35_code q.1 = .ok q.2 := by decide +kernel
set_option maxRecDepth 20000 in
theorem cX12_isWord (l : Launch) (w : WX) (hL : Lay w) (t : Nat) (ht : Wat w t 12 0) (p1 : Int64) (M : Mem) : Ct l w yX12_isWord prog_14_method_35_code 3 (Option.some FieldType.boolean) 0 0 evI (emC M) [.ref t, .long p1] M (FX12_isWord t p1 M) := by
  refine ct_of (by decide) (Nat.le_of_ble_eq_true rfl) (fun x hl hx hb hz => ?_)
  subst hl
  have hd : ∀ i, DAt (xc x).code (tbX12_isWord[i]?) := fun i => by rw [hb]; exact dat_of dX12_isWord i
  show C x w (Qn x w evI (emC M)) 3 0 [(0, .ref t), (1, .long p1)] [] M (FX12_isWord t p1 M)
  unfold FX12_isWord
  refine r_aload_n (pc' := 1) hx (hd 0) rfl 0 rfl rfl ?_
  refine r_get (pc' := 4) (v := .int (mI M t 16)) hx (hd 1) fl_12_290 ht rfl (by decide) rfl ?_
  refine r_iconst (pc' := 5) (v := 1) hx (hd 2) (by decide) rfl ?_
  refine r_jn1 22 (fun v1 => []) (fun v1 => [.int v1]) (fun v1 => M) (fun v1 => ?_) (fun j2 hj3 => ?_)
  · skip
    refine r_gd (fun h4 => ?_)
    exact r_zret hx (hd 12) h4 rfl rfl hz
  refine r_jn0 21 ([]) ([]) (M) (?_) (fun j5 hj6 => ?_)
  · skip
    refine r_iconst (pc' := 22) (v := 0) hx (hd 11) (by decide) rfl ?_
    exact hj3 0
  refine r_icmp_ne (tgt := 21) (pc' := 8) hx (hd 3) (by decide) (fun _ => ?_) rfl (fun _ => ?_)
  · skip
    refine r_sub [] rfl ?_
    exact hj6
  · skip
    refine r_aload_n (pc' := 9) hx (hd 4) rfl 0 rfl rfl ?_
    refine r_get (pc' := 12) (v := .long (mJ M t 17)) hx (hd 5) fl_12_280 ht rfl (by decide) rfl ?_
    refine r_lload_n (pc' := 13) hx (hd 6) rfl 1 rfl rfl ?_
    refine r_lcmp_ne (tgt := 21) (pc' := 17) hx (hd 7) (hd 8) (by decide) (fun _ => ?_) rfl (fun _ => ?_)
    · skip
      refine r_sub [] rfl ?_
      exact hj6
    · skip
      refine r_iconst (pc' := 18) (v := 1) hx (hd 9) (by decide) rfl ?_
      refine r_goto (tgt := 22) hx (hd 10) (by decide) ?_
      refine r_sub [] rfl ?_
      exact hj3 1
abbrev yX12_must : MethodName := ({ cls := "CribbageRoomModel", name := "must", desc := "(Z)V" } : Jvm.MethodName)
def tbX12_must : List (Nat × Instr × Nat) := [(0, .aload_n 0, 1), (1, .getfield 270, 3), (4, .ifCond .ne 20, 3), (7, .iload_n 1, 1), (8, .ifCond .ne 16, 3), (11, .aload_n 0, 1), (12, .iconst 1, 1), (13, .putfield 270, 3), (16, .aload_n 0, 1), (17, .aload_n 0, 1), (18, .getfield 277, 3), (21, .putfield 38, 3), (24, .aload_n 0, 1), (25, .getfield 270, 3), (28, .ifCond .ne 7, 3), (31, .aload_n 0, 1), (32, .invokevirtual 274, 3), (35, .return_, 1)]
theorem dX12_must : ∀ q ∈ tbX12_must, decode prog_14_method_37_code q.1 = .ok q.2 := by decide +kernel
set_option maxRecDepth 20000 in
theorem cX12_must (l : Launch) (w : WX) (hL : Lay w) (t : Nat) (ht : Wat w t 12 0) (p1 : Int32) (M : Mem) : Ct l w yX12_must prog_14_method_37_code 2 (Option.none : Option FieldType) 2 40 evU emU [.ref t, .int p1] M (FX12_must t p1 M) := by
  refine ct_of (by decide) (Nat.le_of_ble_eq_true rfl) (fun x hl hx hb hz => ?_)
  subst hl
  have hd : ∀ i, DAt (xc x).code (tbX12_must[i]?) := fun i => by rw [hb]; exact dat_of dX12_must i
  show C x w (Qn x w evU emU) 2 0 [(0, .ref t), (1, .int p1)] [] M (FX12_must t p1 M)
  unfold FX12_must
  refine r_aload_n (pc' := 1) hx (hd 0) rfl 0 rfl rfl ?_
  refine r_get (pc' := 4) (v := .int (mI M t 19)) hx (hd 1) fl_12_270 ht rfl (by decide) rfl ?_
  refine r_jn1 24 (fun M1 => [(0, .ref t)]) (fun M1 => []) (fun M1 => M1) (fun M1 => ?_) (fun j2 hj3 => ?_)
  · skip
    refine r_aload_n (pc' := 25) hx (hd 12) rfl 0 rfl rfl ?_
    refine r_get (pc' := 28) (v := .int (mI M1 t 19)) hx (hd 13) fl_12_270 ht rfl (by decide) rfl ?_
    refine r_jn1 35 (fun M4 => []) (fun M4 => []) (fun M4 => M4) (fun M4 => ?_) (fun j5 hj6 => ?_)
    · skip
      exact r_vret hx (hd 17) rfl rfl hz
    refine r_if_ne (tgt := 35) (pc' := 31) hx (hd 14) (by decide) (fun _ => ?_) rfl (fun _ => ?_)
    · skip
      refine r_sub [] rfl ?_
      exact hj6 M1
    · skip
      refine r_aload_n (pc' := 32) hx (hd 15) rfl 0 rfl rfl ?_
      refine r_callVU (pc' := 35) (As := []) (rest := []) hx (hd 16) md_X12_next mi_X12_next ms_X12_next ml_12_274 (cX12_next (xl x) w hL t ht M1) ht rfl (by decide) ⟨Nat.le_of_ble_eq_true rfl, Nat.le_of_ble_eq_true rfl⟩ rfl rfl (Nat.le_of_ble_eq_true rfl) rfl (fun M7 => ?_)
      refine r_sub [] rfl ?_
      exact hj6 M7
  refine r_if_ne (tgt := 24) (pc' := 7) hx (hd 2) (by decide) (fun _ => ?_) rfl (fun _ => ?_)
  · skip
    refine r_sub [0] rfl ?_
    exact hj3 M
  · skip
    refine r_iload_n (pc' := 8) hx (hd 3) rfl 1 rfl rfl ?_
    refine r_if_ne (tgt := 24) (pc' := 11) hx (hd 4) (by decide) (fun _ => ?_) rfl (fun _ => ?_)
    · skip
      refine r_sub [0] rfl ?_
      exact hj3 M
    · skip
      refine r_aload_n (pc' := 12) hx (hd 5) rfl 0 rfl rfl ?_
      refine r_iconst (pc' := 13) (v := 1) hx (hd 6) (by decide) rfl ?_
      refine r_putZ (pc' := 16) hx (hd 7) fp_12_270 ht rfl (by decide) rfl rfl (fun M8 => ?_)
      refine r_aload_n (pc' := 17) hx (hd 8) rfl 0 rfl rfl ?_
      refine r_aload_n (pc' := 18) hx (hd 9) rfl 0 rfl rfl ?_
      refine r_get (pc' := 21) (v := .int (mI M8 t 14)) hx (hd 10) fl_12_277 ht rfl (by decide) rfl ?_
      refine r_putI (pc' := 24) hx (hd 11) fp_12_38 ht rfl (by decide) rfl (fun M9 => ?_)
      refine r_sub [0] rfl ?_
      exact hj3 M9
abbrev yX12_push : MethodName := ({ cls := "CribbageRoomModel", name := "push", desc := "(II)V" } : Jvm.MethodName)
def tbX12_push : List (Nat × Instr × Nat) := [(0, .aload_n 0, 1), (1, .getfield 51, 3), (4, .aload_n 0, 1), (5, .getfield 310, 3), (8, .iload_n 1, 1), (9, .iastore, 1), (10, .aload_n 0, 1), (11, .getfield 54, 3), (14, .aload_n 0, 1), (15, .getfield 310, 3), (18, .iload_n 2, 1), (19, .iastore, 1), (20, .aload_n 0, 1), (21, .dup, 1), (22, .getfield 310, 3), (25, .iconst 1, 1), (26, .iadd, 1), (27, .putfield 310, 3), (30, .return_, 1)]
theorem dX12_push : ∀ q ∈ tbX12_push, decode prog_14_method_41_code q.1 = .ok q.2 := by decide +kernel
set_option maxRecDepth 20000 in
theorem cX12_push (l : Launch) (w : WX) (hL : Lay w) (t : Nat) (ht : Wat w t 12 0) (p1 : Int32) (p2 : Int32) (M : Mem) : Ct l w yX12_push prog_14_method_41_code 3 (Option.none : Option FieldType) 0 0 evU emU [.ref t, .int p1, .int p2] M (FX12_push t p1 p2 M) := by
  refine ct_of (by decide) (Nat.le_of_ble_eq_true rfl) (fun x hl hx hb hz => ?_)
  subst hl
  have hd : ∀ i, DAt (xc x).code (tbX12_push[i]?) := fun i => by rw [hb]; exact dat_of dX12_push i
  show C x w (Qn x w evU emU) 3 0 [(0, .ref t), (1, .int p1), (2, .int p2)] [] M (FX12_push t p1 p2 M)
  unfold FX12_push
  refine r_aload_n (pc' := 1) hx (hd 0) rfl 0 rfl rfl ?_
  refine r_get (pc' := 4) (v := .ref (t + 13)) hx (hd 1) fl_12_51 ht rfl (by decide) rfl ?_
  have h1 := hL.1 _ _ _ ht 27 13 20 400 rfl
  refine r_aload_n (pc' := 5) hx (hd 2) rfl 0 rfl rfl ?_
  refine r_get (pc' := 8) (v := .int (mI M t 29)) hx (hd 3) fl_12_310 ht rfl (by decide) rfl ?_
  refine r_iload_n (pc' := 9) hx (hd 4) rfl 1 rfl rfl ?_
  refine r_gd (fun h3 => ?_)
  refine r_iast (pc' := 10) (k := ix (mI M t 29)) hx (hd 5) h1 h3 rfl rfl (fun M2 => ?_)
  refine r_aload_n (pc' := 11) hx (hd 6) rfl 0 rfl rfl ?_
  refine r_get (pc' := 14) (v := .ref (t + 14)) hx (hd 7) fl_12_54 ht rfl (by decide) rfl ?_
  have h4 := hL.1 _ _ _ ht 28 14 20 400 rfl
  refine r_aload_n (pc' := 15) hx (hd 8) rfl 0 rfl rfl ?_
  refine r_get (pc' := 18) (v := .int (mI M2 t 29)) hx (hd 9) fl_12_310 ht rfl (by decide) rfl ?_
  refine r_iload_n (pc' := 19) hx (hd 10) rfl 2 rfl rfl ?_
  refine r_gd (fun h6 => ?_)
  refine r_iast (pc' := 20) (k := ix (mI M2 t 29)) hx (hd 11) h4 h6 rfl rfl (fun M5 => ?_)
  refine r_aload_n (pc' := 21) hx (hd 12) rfl 0 rfl rfl ?_
  refine r_dup (pc' := 22) hx (hd 13) rfl rfl ?_
  refine r_get (pc' := 25) (v := .int (mI M5 t 29)) hx (hd 14) fl_12_310 ht rfl (by decide) rfl ?_
  refine r_iconst (pc' := 26) (v := 1) hx (hd 15) (by decide) rfl ?_
  refine r_iadd (pc' := 27) hx (hd 16) rfl ?_
  refine r_putI (pc' := 30) hx (hd 17) fp_12_310 ht rfl (by decide) rfl (fun M7 => ?_)
  exact r_vret hx (hd 18) rfl rfl hz
abbrev yX12_isSign : MethodName := ({ cls := "CribbageRoomModel", name := "isSign", desc := "(I)Z" } : Jvm.MethodName)
def tbX12_isSign : List (Nat × Instr × Nat) := [(0, .aload_n 0, 1), (1, .getfield 290, 3), (4, .iconst 3, 1), (5, .if_icmp .ne 17, 3), (8, .aload_n 0, 1), (9, .getfield 280, 3), (12, .iload_n 1, 1), (13, .i2l, 1), (14, .lcmp, 1), (15, .ifCond .ne 7, 3), (18, .iconst 1, 1), (19, .goto 4, 3), (22, .iconst 0, 1), (23, .ireturn, 1)]
theorem dX12_isSign : ∀ q ∈ tbX12_isSign, decode prog_14_method_36_code q.1 = .ok q.2 := by decide +kernel
set_option maxRecDepth 20000 in
theorem cX12_isSign (l : Launch) (w : WX) (hL : Lay w) (t : Nat) (ht : Wat w t 12 0) (p1 : Int32) (M : Mem) : Ct l w yX12_isSign prog_14_method_36_code 2 (Option.some FieldType.boolean) 0 0 evI (emC M) [.ref t, .int p1] M (FX12_isSign t p1 M) := by
  refine ct_of (by decide) (Nat.le_of_ble_eq_true rfl) (fun x hl hx hb hz => ?_)
  subst hl
  have hd : ∀ i, DAt (xc x).code (tbX12_isSign[i]?) := fun i => by rw [hb]; exact dat_of dX12_isSign i
  show C x w (Qn x w evI (emC M)) 2 0 [(0, .ref t), (1, .int p1)] [] M (FX12_isSign t p1 M)
  unfold FX12_isSign
  refine r_aload_n (pc' := 1) hx (hd 0) rfl 0 rfl rfl ?_
  refine r_get (pc' := 4) (v := .int (mI M t 16)) hx (hd 1) fl_12_290 ht rfl (by decide) rfl ?_
  refine r_iconst (pc' := 5) (v := 3) hx (hd 2) (by decide) rfl ?_
  refine r_jn1 23 (fun v1 => []) (fun v1 => [.int v1]) (fun v1 => M) (fun v1 => ?_) (fun j2 hj3 => ?_)
  · skip
    refine r_gd (fun h4 => ?_)
    exact r_zret hx (hd 13) h4 rfl rfl hz
  refine r_jn0 22 ([]) ([]) (M) (?_) (fun j5 hj6 => ?_)
  · skip
    refine r_iconst (pc' := 23) (v := 0) hx (hd 12) (by decide) rfl ?_
    exact hj3 0
  refine r_icmp_ne (tgt := 22) (pc' := 8) hx (hd 3) (by decide) (fun _ => ?_) rfl (fun _ => ?_)
  · skip
    refine r_sub [] rfl ?_
    exact hj6
  · skip
    refine r_aload_n (pc' := 9) hx (hd 4) rfl 0 rfl rfl ?_
    refine r_get (pc' := 12) (v := .long (mJ M t 17)) hx (hd 5) fl_12_280 ht rfl (by decide) rfl ?_
    refine r_iload_n (pc' := 13) hx (hd 6) rfl 1 rfl rfl ?_
    refine r_i2l (pc' := 14) hx (hd 7) rfl ?_
    refine r_lcmp_ne (tgt := 22) (pc' := 18) hx (hd 8) (hd 9) (by decide) (fun _ => ?_) rfl (fun _ => ?_)
    · skip
      refine r_sub [] rfl ?_
      exact hj6
    · skip
      refine r_iconst (pc' := 19) (v := 1) hx (hd 10) (by decide) rfl ?_
      refine r_goto (tgt := 23) hx (hd 11) (by decide) ?_
      refine r_sub [] rfl ?_
      exact hj3 1
abbrev yX12_openBracket : MethodName := ({ cls := "CribbageRoomModel", name := "openBracket", desc := "(I)V" } : Jvm.MethodName)
def tbX12_openBracket : List (Nat × Instr × Nat) := [(0, .aload_n 0, 1), (1, .aload_n 0, 1), (2, .getfield 332, 3), (5, .bipush 8, 2), (7, .if_icmp .ge 7, 3), (10, .iconst 1, 1), (11, .goto 4, 3), (14, .iconst 0, 1), (15, .invokevirtual 303, 3), (18, .aload_n 0, 1), (19, .getfield 270, 3), (22, .ifCond .ne 19, 3), (25, .aload_n 0, 1), (26, .dup, 1), (27, .getfield 332, 3), (30, .iconst 1, 1), (31, .iadd, 1), (32, .putfield 332, 3), (35, .aload_n 0, 1), (36, .iload_n 1, 1), (37, .iconst 0, 1), (38, .invokevirtual 335, 3), (41, .return_, 1)]
theorem dX12_openBracket : ∀ q ∈ tbX12_openBracket, decode prog_14_method_48_code q.1 = .ok q.2 := by decide +kernel
set_option maxRecDepth 20000 in
theorem cX12_openBracket (l : Launch) (w : WX) (hL : Lay w) (t : Nat) (ht : Wat w t 12 0) (p1 : Int32) (M : Mem) : Ct l w yX12_openBracket prog_14_method_48_code 2 (Option.none : Option FieldType) 3 61 evU emU [.ref t, .int p1] M (FX12_openBracket t p1 M) := by
  refine ct_of (by decide) (Nat.le_of_ble_eq_true rfl) (fun x hl hx hb hz => ?_)
  subst hl
  have hd : ∀ i, DAt (xc x).code (tbX12_openBracket[i]?) := fun i => by rw [hb]; exact dat_of dX12_openBracket i
  show C x w (Qn x w evU emU) 2 0 [(0, .ref t), (1, .int p1)] [] M (FX12_openBracket t p1 M)
  unfold FX12_openBracket
  refine r_aload_n (pc' := 1) hx (hd 0) rfl 0 rfl rfl ?_
  refine r_aload_n (pc' := 2) hx (hd 1) rfl 0 rfl rfl ?_
  refine r_get (pc' := 5) (v := .int (mI M t 30)) hx (hd 2) fl_12_332 ht rfl (by decide) rfl ?_
  refine r_bipush (pc' := 7) (v := 8) hx (hd 3) (by decide) rfl ?_
  refine r_jn1 15 (fun v1 => [(0, .ref t), (1, .int p1)]) (fun v1 => [.int v1, .ref t]) (fun v1 => M) (fun v1 => ?_) (fun j2 hj3 => ?_)
  · skip
    refine r_callVU (pc' := 18) (As := [.int v1]) (rest := []) hx (hd 8) md_X12_must mi_X12_must ms_X12_must ml_12_303 (cX12_must (xl x) w hL t ht v1 M) ht rfl (by decide) ⟨Nat.le_of_ble_eq_true rfl, Nat.le_of_ble_eq_true rfl⟩ rfl rfl (Nat.le_of_ble_eq_true rfl) rfl (fun M4 => ?_)
    refine r_aload_n (pc' := 19) hx (hd 9) rfl 0 rfl rfl ?_
    refine r_get (pc' := 22) (v := .int (mI M4 t 19)) hx (hd 10) fl_12_270 ht rfl (by decide) rfl ?_
    refine r_jn1 41 (fun M5 => []) (fun M5 => []) (fun M5 => M5) (fun M5 => ?_) (fun j6 hj7 => ?_)
    · skip
      exact r_vret hx (hd 22) rfl rfl hz
    refine r_if_ne (tgt := 41) (pc' := 25) hx (hd 11) (by decide) (fun _ => ?_) rfl (fun _ => ?_)
    · skip
      refine r_sub [] rfl ?_
      exact hj7 M4
    · skip
      refine r_aload_n (pc' := 26) hx (hd 12) rfl 0 rfl rfl ?_
      refine r_dup (pc' := 27) hx (hd 13) rfl rfl ?_
      refine r_get (pc' := 30) (v := .int (mI M4 t 30)) hx (hd 14) fl_12_332 ht rfl (by decide) rfl ?_
      refine r_iconst (pc' := 31) (v := 1) hx (hd 15) (by decide) rfl ?_
      refine r_iadd (pc' := 32) hx (hd 16) rfl ?_
      refine r_putI (pc' := 35) hx (hd 17) fp_12_332 ht rfl (by decide) rfl (fun M8 => ?_)
      refine r_aload_n (pc' := 36) hx (hd 18) rfl 0 rfl rfl ?_
      refine r_iload_n (pc' := 37) hx (hd 19) rfl 1 rfl rfl ?_
      refine r_iconst (pc' := 38) (v := 0) hx (hd 20) (by decide) rfl ?_
      refine r_callVU (pc' := 41) (As := [.int p1, .int 0]) (rest := []) hx (hd 21) md_X12_push mi_X12_push ms_X12_push ml_12_335 (cX12_push (xl x) w hL t ht p1 0 M8) ht rfl (by decide) ⟨Nat.le_of_ble_eq_true rfl, Nat.le_of_ble_eq_true rfl⟩ rfl rfl (Nat.le_of_ble_eq_true rfl) rfl (fun M9 => ?_)
      refine r_sub [] rfl ?_
      exact hj7 M9
  refine r_icmp_ge (tgt := 14) (pc' := 10) hx (hd 4) (by decide) (fun _ => ?_) rfl (fun _ => ?_)
  · skip
    refine r_iconst (pc' := 15) (v := 0) hx (hd 7) (by decide) rfl ?_
    exact hj3 0
  · skip
    refine r_iconst (pc' := 11) (v := 1) hx (hd 5) (by decide) rfl ?_
    refine r_goto (tgt := 15) hx (hd 6) (by decide) ?_
    exact hj3 1
abbrev yX12_orderPartAt : MethodName := ({ cls := "CribbageRoomModel", name := "orderPartAt", desc := "()I" } : Jvm.MethodName)
def tbX12_orderPartAt : List (Nat × Instr × Nat) := [(0, .iconst (-1), 1), (1, .istore_n 1, 1), (2, .iconst 0, 1), (3, .istore_n 2, 1), (4, .iload_n 2, 1), (5, .bipush 7, 2), (7, .if_icmp .ge 30, 3), (10, .aload_n 0, 1), (11, .aload_n 0, 1), (12, .getfield 87, 3), (15, .iload_n 2, 1), (16, .laload, 1), (17, .invokevirtual 328, 3), (20, .ifCond .eq 9, 3), (23, .iload_n 2, 1), (24, .iconst 1, 1), (25, .iadd, 1), (26, .goto 4, 3), (29, .iload_n 1, 1), (30, .istore_n 1, 1), (31, .iinc 2 1, 3), (34, .goto (-30), 3), (37, .iload_n 1, 1), (38, .ireturn, 1)]
theorem dX12_orderPartAt : ∀ q ∈ tbX12_orderPartAt, decode prog_14_method_47_code q.1 = .ok q.2 := by decide +kernel
set_option maxRecDepth 20000 in
theorem cX12_orderPartAt (l : Launch) (w : WX) (hL : Lay w) (t : Nat) (ht : Wat w t 12 0) (M : Mem) : Ct l w yX12_orderPartAt prog_14_method_47_code 3 (Option.some FieldType.int) 1 22 evI (emC M) [.ref t] M (FX12_orderPartAt t M) := by
  refine ct_of (by decide) (Nat.le_of_ble_eq_true rfl) (fun x hl hx hb hz => ?_)
  subst hl
  have hd : ∀ i, DAt (xc x).code (tbX12_orderPartAt[i]?) := fun i => by rw [hb]; exact dat_of dX12_orderPartAt i
  show C x w (Qn x w evI (emC M)) 3 0 [(0, .ref t)] [] M (FX12_orderPartAt t M)
  unfold FX12_orderPartAt
  refine r_iconst (pc' := 1) (v := (-1)) hx (hd 0) (by decide) rfl ?_
  refine r_istore_n (pc' := 2) (L' := [(1, .int (-1)), (0, .ref t)]) hx (hd 1) rfl (by decide) rfl rfl ?_
  refine r_iconst (pc' := 3) (v := 0) hx (hd 2) (by decide) rfl ?_
  refine r_istore_n (pc' := 4) (L' := [(2, .int 0), (1, .int (-1)), (0, .ref t)]) hx (hd 3) rfl (by decide) rfl rfl ?_
  refine r_sub [2, 1, 0] rfl ?_
  refine r_wl2 (fun v1 v2 => [(0, .ref t), (1, .int v1), (2, .int v2)]) (fun v1 v2 => []) (fun v1 v2 => M) (fun v1 v2 rec3 ih4 => ?_) fuel (-1) 0
  refine r_iload_n (pc' := 5) hx (hd 4) rfl 2 rfl rfl ?_
  refine r_bipush (pc' := 7) (v := 7) hx (hd 5) (by decide) rfl ?_
  refine r_icmp_ge (tgt := 37) (pc' := 10) hx (hd 6) (by decide) (fun _ => ?_) rfl (fun _ => ?_)
  · skip
    refine r_iload_n (pc' := 38) hx (hd 22) rfl 1 rfl rfl ?_
    exact r_iret hx (hd 23) rfl rfl hz
  · skip
    refine r_aload_n (pc' := 11) hx (hd 7) rfl 0 rfl rfl ?_
    refine r_aload_n (pc' := 12) hx (hd 8) rfl 0 rfl rfl ?_
    refine r_get (pc' := 15) (v := .ref (t + 16)) hx (hd 9) fl_12_87 ht rfl (by decide) rfl ?_
    have h5 := hL.1 _ _ _ ht 32 16 21 7 rfl
    refine r_iload_n (pc' := 16) hx (hd 10) rfl 2 rfl rfl ?_
    refine r_gd (fun h6 => ?_)
    refine r_lald (pc' := 17) (k := ix v2) hx (hd 11) h5 h6 rfl rfl ?_
    refine r_callV (pc' := 20) (As := [.long (mJ M (t + 16) (ix v2))]) (rest := []) hx (hd 12) md_X12_isWord mi_X12_isWord ms_X12_isWord ml_12_328 (cX12_isWord (xl x) w hL t ht (mJ M (t + 16) (ix v2)) M) ht rfl (by decide) ⟨Nat.le_of_ble_eq_true rfl, Nat.le_of_ble_eq_true rfl⟩ rfl rfl (Nat.le_of_ble_eq_true rfl) (fun r7 => .int r7 :: []) (fun _ => M) (fun _ => ⟨rfl, rfl⟩) rfl (fun r7 _ => ?_)
    refine r_jn1 30 (fun v8 => [(0, .ref t), (2, .int v2)]) (fun v8 => [.int v8]) (fun v8 => M) (fun v8 => ?_) (fun j9 hj10 => ?_)
    · skip
      refine r_istore_n (pc' := 31) (L' := [(1, .int v8), (0, .ref t), (2, .int v2)]) hx (hd 19) rfl (by decide) rfl rfl ?_
      refine r_iinc (pc' := 34) (v := 1) hx (hd 20) 2 rfl (by decide) (by decide) (fun v11 => [(2, .int v11), (1, .int v8), (0, .ref t)]) (fun _ => rfl) rfl (fun v11 => ?_)
      refine r_goto (tgt := 4) hx (hd 21) (by decide) ?_
      refine r_sub [2, 1, 0] rfl ?_
      exact ih4 v8 v11
    refine r_if_eq (tgt := 29) (pc' := 23) hx (hd 13) (by decide) (fun _ => ?_) rfl (fun _ => ?_)
    · skip
      refine r_iload_n (pc' := 30) hx (hd 18) rfl 1 rfl rfl ?_
      refine r_sub [0, 2] rfl ?_
      exact hj10 v1
    · skip
      refine r_iload_n (pc' := 24) hx (hd 14) rfl 2 rfl rfl ?_
      refine r_iconst (pc' := 25) (v := 1) hx (hd 15) (by decide) rfl ?_
      refine r_iadd (pc' := 26) hx (hd 16) rfl ?_
      refine r_goto (tgt := 30) hx (hd 17) (by decide) ?_
      refine r_sub [0, 2] rfl ?_
      exact hj10 (v2 + 1)
abbrev yX12_partAt : MethodName := ({ cls := "CribbageRoomModel", name := "partAt", desc := "()I" } : Jvm.MethodName)
def tbX12_partAt : List (Nat × Instr × Nat) := [(0, .iconst (-1), 1), (1, .istore_n 1, 1), (2, .iconst 0, 1), (3, .istore_n 2, 1), (4, .iload_n 2, 1), (5, .bipush 6, 2), (7, .if_icmp .ge 30, 3), (10, .aload_n 0, 1), (11, .aload_n 0, 1), (12, .getfield 69, 3), (15, .iload_n 2, 1), (16, .laload, 1), (17, .invokevirtual 328, 3), (20, .ifCond .eq 9, 3), (23, .iload_n 2, 1), (24, .iconst 1, 1), (25, .iadd, 1), (26, .goto 4, 3), (29, .iload_n 1, 1), (30, .istore_n 1, 1), (31, .iinc 2 1, 3), (34, .goto (-30), 3), (37, .iload_n 1, 1), (38, .ireturn, 1)]
theorem dX12_partAt : ∀ q ∈ tbX12_partAt, decode prog_14_method_46_code q.1 = .ok q.2 := by decide +kernel
set_option maxRecDepth 20000 in
theorem cX12_partAt (l : Launch) (w : WX) (hL : Lay w) (t : Nat) (ht : Wat w t 12 0) (M : Mem) : Ct l w yX12_partAt prog_14_method_46_code 3 (Option.some FieldType.int) 1 22 evI (emC M) [.ref t] M (FX12_partAt t M) := by
  refine ct_of (by decide) (Nat.le_of_ble_eq_true rfl) (fun x hl hx hb hz => ?_)
  subst hl
  have hd : ∀ i, DAt (xc x).code (tbX12_partAt[i]?) := fun i => by rw [hb]; exact dat_of dX12_partAt i
  show C x w (Qn x w evI (emC M)) 3 0 [(0, .ref t)] [] M (FX12_partAt t M)
  unfold FX12_partAt
  refine r_iconst (pc' := 1) (v := (-1)) hx (hd 0) (by decide) rfl ?_
  refine r_istore_n (pc' := 2) (L' := [(1, .int (-1)), (0, .ref t)]) hx (hd 1) rfl (by decide) rfl rfl ?_
  refine r_iconst (pc' := 3) (v := 0) hx (hd 2) (by decide) rfl ?_
  refine r_istore_n (pc' := 4) (L' := [(2, .int 0), (1, .int (-1)), (0, .ref t)]) hx (hd 3) rfl (by decide) rfl rfl ?_
  refine r_sub [2, 1, 0] rfl ?_
  refine r_wl2 (fun v1 v2 => [(0, .ref t), (1, .int v1), (2, .int v2)]) (fun v1 v2 => []) (fun v1 v2 => M) (fun v1 v2 rec3 ih4 => ?_) fuel (-1) 0
  refine r_iload_n (pc' := 5) hx (hd 4) rfl 2 rfl rfl ?_
  refine r_bipush (pc' := 7) (v := 6) hx (hd 5) (by decide) rfl ?_
  refine r_icmp_ge (tgt := 37) (pc' := 10) hx (hd 6) (by decide) (fun _ => ?_) rfl (fun _ => ?_)
  · skip
    refine r_iload_n (pc' := 38) hx (hd 22) rfl 1 rfl rfl ?_
    exact r_iret hx (hd 23) rfl rfl hz
  · skip
    refine r_aload_n (pc' := 11) hx (hd 7) rfl 0 rfl rfl ?_
    refine r_aload_n (pc' := 12) hx (hd 8) rfl 0 rfl rfl ?_
    refine r_get (pc' := 15) (v := .ref (t + 15)) hx (hd 9) fl_12_69 ht rfl (by decide) rfl ?_
    have h5 := hL.1 _ _ _ ht 31 15 21 6 rfl
    refine r_iload_n (pc' := 16) hx (hd 10) rfl 2 rfl rfl ?_
    refine r_gd (fun h6 => ?_)
    refine r_lald (pc' := 17) (k := ix v2) hx (hd 11) h5 h6 rfl rfl ?_
    refine r_callV (pc' := 20) (As := [.long (mJ M (t + 15) (ix v2))]) (rest := []) hx (hd 12) md_X12_isWord mi_X12_isWord ms_X12_isWord ml_12_328 (cX12_isWord (xl x) w hL t ht (mJ M (t + 15) (ix v2)) M) ht rfl (by decide) ⟨Nat.le_of_ble_eq_true rfl, Nat.le_of_ble_eq_true rfl⟩ rfl rfl (Nat.le_of_ble_eq_true rfl) (fun r7 => .int r7 :: []) (fun _ => M) (fun _ => ⟨rfl, rfl⟩) rfl (fun r7 _ => ?_)
    refine r_jn1 30 (fun v8 => [(0, .ref t), (2, .int v2)]) (fun v8 => [.int v8]) (fun v8 => M) (fun v8 => ?_) (fun j9 hj10 => ?_)
    · skip
      refine r_istore_n (pc' := 31) (L' := [(1, .int v8), (0, .ref t), (2, .int v2)]) hx (hd 19) rfl (by decide) rfl rfl ?_
      refine r_iinc (pc' := 34) (v := 1) hx (hd 20) 2 rfl (by decide) (by decide) (fun v11 => [(2, .int v11), (1, .int v8), (0, .ref t)]) (fun _ => rfl) rfl (fun v11 => ?_)
      refine r_goto (tgt := 4) hx (hd 21) (by decide) ?_
      refine r_sub [2, 1, 0] rfl ?_
      exact ih4 v8 v11
    refine r_if_eq (tgt := 29) (pc' := 23) hx (hd 13) (by decide) (fun _ => ?_) rfl (fun _ => ?_)
    · skip
      refine r_iload_n (pc' := 30) hx (hd 18) rfl 1 rfl rfl ?_
      refine r_sub [0, 2] rfl ?_
      exact hj10 v1
    · skip
      refine r_iload_n (pc' := 24) hx (hd 14) rfl 2 rfl rfl ?_
      refine r_iconst (pc' := 25) (v := 1) hx (hd 15) (by decide) rfl ?_
      refine r_iadd (pc' := 26) hx (hd 16) rfl ?_
      refine r_goto (tgt := 30) hx (hd 17) (by decide) ?_
      refine r_sub [0, 2] rfl ?_
      exact hj10 (v2 + 1)
abbrev yX12_emit : MethodName := ({ cls := "CribbageRoomModel", name := "emit", desc := "(II)V" } : Jvm.MethodName)
def tbX12_emit : List (Nat × Instr × Nat) := [(0, .aload_n 0, 1), (1, .getfield 45, 3), (4, .aload_n 0, 1), (5, .getfield 307, 3), (8, .iload_n 1, 1), (9, .iastore, 1), (10, .aload_n 0, 1), (11, .getfield 48, 3), (14, .aload_n 0, 1), (15, .getfield 307, 3), (18, .iload_n 2, 1), (19, .iastore, 1), (20, .aload_n 0, 1), (21, .dup, 1), (22, .getfield 307, 3), (25, .iconst 1, 1), (26, .iadd, 1), (27, .putfield 307, 3), (30, .return_, 1)]
theorem dX12_emit : ∀ q ∈ tbX12_emit, decode prog_14_method_40_code q.1 = .ok q.2 := by decide +kernel
set_option maxRecDepth 20000 in
theorem cX12_emit (l : Launch) (w : WX) (hL : Lay w) (t : Nat) (ht : Wat w t 12 0) (p1 : Int32) (p2 : Int32) (M : Mem) : Ct l w yX12_emit prog_14_method_40_code 3 (Option.none : Option FieldType) 0 0 evU emU [.ref t, .int p1, .int p2] M (FX12_emit t p1 p2 M) := by
  refine ct_of (by decide) (Nat.le_of_ble_eq_true rfl) (fun x hl hx hb hz => ?_)
  subst hl
  have hd : ∀ i, DAt (xc x).code (tbX12_emit[i]?) := fun i => by rw [hb]; exact dat_of dX12_emit i
  show C x w (Qn x w evU emU) 3 0 [(0, .ref t), (1, .int p1), (2, .int p2)] [] M (FX12_emit t p1 p2 M)
  unfold FX12_emit
  refine r_aload_n (pc' := 1) hx (hd 0) rfl 0 rfl rfl ?_
  refine r_get (pc' := 4) (v := .ref (t + 11)) hx (hd 1) fl_12_45 ht rfl (by decide) rfl ?_
  have h1 := hL.1 _ _ _ ht 24 11 20 400 rfl
  refine r_aload_n (pc' := 5) hx (hd 2) rfl 0 rfl rfl ?_
  refine r_get (pc' := 8) (v := .int (mI M t 23)) hx (hd 3) fl_12_307 ht rfl (by decide) rfl ?_
  refine r_iload_n (pc' := 9) hx (hd 4) rfl 1 rfl rfl ?_
  refine r_gd (fun h3 => ?_)
  refine r_iast (pc' := 10) (k := ix (mI M t 23)) hx (hd 5) h1 h3 rfl rfl (fun M2 => ?_)
  refine r_aload_n (pc' := 11) hx (hd 6) rfl 0 rfl rfl ?_
  refine r_get (pc' := 14) (v := .ref (t + 12)) hx (hd 7) fl_12_48 ht rfl (by decide) rfl ?_
  have h4 := hL.1 _ _ _ ht 25 12 20 400 rfl
  refine r_aload_n (pc' := 15) hx (hd 8) rfl 0 rfl rfl ?_
  refine r_get (pc' := 18) (v := .int (mI M2 t 23)) hx (hd 9) fl_12_307 ht rfl (by decide) rfl ?_
  refine r_iload_n (pc' := 19) hx (hd 10) rfl 2 rfl rfl ?_
  refine r_gd (fun h6 => ?_)
  refine r_iast (pc' := 20) (k := ix (mI M2 t 23)) hx (hd 11) h4 h6 rfl rfl (fun M5 => ?_)
  refine r_aload_n (pc' := 21) hx (hd 12) rfl 0 rfl rfl ?_
  refine r_dup (pc' := 22) hx (hd 13) rfl rfl ?_
  refine r_get (pc' := 25) (v := .int (mI M5 t 23)) hx (hd 14) fl_12_307 ht rfl (by decide) rfl ?_
  refine r_iconst (pc' := 26) (v := 1) hx (hd 15) (by decide) rfl ?_
  refine r_iadd (pc' := 27) hx (hd 16) rfl ?_
  refine r_putI (pc' := 30) hx (hd 17) fp_12_307 ht rfl (by decide) rfl (fun M7 => ?_)
  exact r_vret hx (hd 18) rfl rfl hz
abbrev yX12_leaf : MethodName := ({ cls := "CribbageRoomModel", name := "leaf", desc := "(ZII)V" } : Jvm.MethodName)
def tbX12_leaf : List (Nat × Instr × Nat) := [(0, .aload_n 0, 1), (1, .iload_n 1, 1), (2, .ifCond .eq 16, 3), (5, .aload_n 0, 1), (6, .getfield 338, 3), (9, .bipush 50, 2), (11, .if_icmp .ge 7, 3), (14, .iconst 1, 1), (15, .goto 4, 3), (18, .iconst 0, 1), (19, .invokevirtual 303, 3), (22, .aload_n 0, 1), (23, .getfield 270, 3), (26, .ifCond .ne 19, 3), (29, .aload_n 0, 1), (30, .iload_n 2, 1), (31, .iload_n 3, 1), (32, .invokevirtual 316, 3), (35, .aload_n 0, 1), (36, .dup, 1), (37, .getfield 338, 3), (40, .iconst 1, 1), (41, .iadd, 1), (42, .putfield 338, 3), (45, .return_, 1)]
theorem dX12_leaf : ∀ q ∈ tbX12_leaf, decode prog_14_method_49_code q.1 = .ok q.2 := by decide +kernel
set_option maxRecDepth 20000 in
theorem cX12_leaf (l : Launch) (w : WX) (hL : Lay w) (t : Nat) (ht : Wat w t 12 0) (p1 : Int32) (p2 : Int32) (p3 : Int32) (M : Mem) : Ct l w yX12_leaf prog_14_method_49_code 4 (Option.none : Option FieldType) 3 61 evU emU [.ref t, .int p1, .int p2, .int p3] M (FX12_leaf t p1 p2 p3 M) := by
  refine ct_of (by decide) (Nat.le_of_ble_eq_true rfl) (fun x hl hx hb hz => ?_)
  subst hl
  have hd : ∀ i, DAt (xc x).code (tbX12_leaf[i]?) := fun i => by rw [hb]; exact dat_of dX12_leaf i
  show C x w (Qn x w evU emU) 4 0 [(0, .ref t), (1, .int p1), (2, .int p2), (3, .int p3)] [] M (FX12_leaf t p1 p2 p3 M)
  unfold FX12_leaf
  refine r_aload_n (pc' := 1) hx (hd 0) rfl 0 rfl rfl ?_
  refine r_iload_n (pc' := 2) hx (hd 1) rfl 1 rfl rfl ?_
  refine r_jn1 19 (fun v1 => [(0, .ref t), (2, .int p2), (3, .int p3)]) (fun v1 => [.int v1, .ref t]) (fun v1 => M) (fun v1 => ?_) (fun j2 hj3 => ?_)
  · skip
    refine r_callVU (pc' := 22) (As := [.int v1]) (rest := []) hx (hd 10) md_X12_must mi_X12_must ms_X12_must ml_12_303 (cX12_must (xl x) w hL t ht v1 M) ht rfl (by decide) ⟨Nat.le_of_ble_eq_true rfl, Nat.le_of_ble_eq_true rfl⟩ rfl rfl (Nat.le_of_ble_eq_true rfl) rfl (fun M4 => ?_)
    refine r_aload_n (pc' := 23) hx (hd 11) rfl 0 rfl rfl ?_
    refine r_get (pc' := 26) (v := .int (mI M4 t 19)) hx (hd 12) fl_12_270 ht rfl (by decide) rfl ?_
    refine r_jn1 45 (fun M5 => []) (fun M5 => []) (fun M5 => M5) (fun M5 => ?_) (fun j6 hj7 => ?_)
    · skip
      exact r_vret hx (hd 24) rfl rfl hz
    refine r_if_ne (tgt := 45) (pc' := 29) hx (hd 13) (by decide) (fun _ => ?_) rfl (fun _ => ?_)
    · skip
      refine r_sub [] rfl ?_
      exact hj7 M4
    · skip
      refine r_aload_n (pc' := 30) hx (hd 14) rfl 0 rfl rfl ?_
      refine r_iload_n (pc' := 31) hx (hd 15) rfl 1 rfl rfl ?_
      refine r_iload_n (pc' := 32) hx (hd 16) rfl 2 rfl rfl ?_
      refine r_callVU (pc' := 35) (As := [.int p2, .int p3]) (rest := []) hx (hd 17) md_X12_emit mi_X12_emit ms_X12_emit ml_12_316 (cX12_emit (xl x) w hL t ht p2 p3 M4) ht rfl (by decide) ⟨Nat.le_of_ble_eq_true rfl, Nat.le_of_ble_eq_true rfl⟩ rfl rfl (Nat.le_of_ble_eq_true rfl) rfl (fun M8 => ?_)
      refine r_aload_n (pc' := 36) hx (hd 18) rfl 0 rfl rfl ?_
      refine r_dup (pc' := 37) hx (hd 19) rfl rfl ?_
      refine r_get (pc' := 40) (v := .int (mI M8 t 26)) hx (hd 20) fl_12_338 ht rfl (by decide) rfl ?_
      refine r_iconst (pc' := 41) (v := 1) hx (hd 21) (by decide) rfl ?_
      refine r_iadd (pc' := 42) hx (hd 22) rfl ?_
      refine r_putI (pc' := 45) hx (hd 23) fp_12_338 ht rfl (by decide) rfl (fun M9 => ?_)
      refine r_sub [] rfl ?_
      exact hj7 M9
  refine r_jn0 18 ([(0, .ref t), (2, .int p2), (3, .int p3)]) ([.ref t]) (M) (?_) (fun j10 hj11 => ?_)
  · skip
    refine r_iconst (pc' := 19) (v := 0) hx (hd 9) (by decide) rfl ?_
    exact hj3 0
  refine r_if_eq (tgt := 18) (pc' := 5) hx (hd 2) (by decide) (fun _ => ?_) rfl (fun _ => ?_)
  · skip
    refine r_sub [0, 2, 3] rfl ?_
    exact hj11
  · skip
    refine r_aload_n (pc' := 6) hx (hd 3) rfl 0 rfl rfl ?_
    refine r_get (pc' := 9) (v := .int (mI M t 26)) hx (hd 4) fl_12_338 ht rfl (by decide) rfl ?_
    refine r_bipush (pc' := 11) (v := 50) hx (hd 5) (by decide) rfl ?_
    refine r_icmp_ge (tgt := 18) (pc' := 14) hx (hd 6) (by decide) (fun _ => ?_) rfl (fun _ => ?_)
    · skip
      refine r_sub [0, 2, 3] rfl ?_
      exact hj11
    · skip
      refine r_iconst (pc' := 15) (v := 1) hx (hd 7) (by decide) rfl ?_
      refine r_goto (tgt := 19) hx (hd 8) (by decide) ?_
      refine r_sub [0, 2, 3] rfl ?_
      exact hj3 1
abbrev yX12_number : MethodName := ({ cls := "CribbageRoomModel", name := "number", desc := "(JJ)I" } : Jvm.MethodName)
def tbX12_number : List (Nat × Instr × Nat) := [(0, .aload_n 0, 1), (1, .getfield 280, 3), (4, .l2i, 1), (5, .istore 5, 2), (7, .aload_n 0, 1), (8, .aload_n 0, 1), (9, .getfield 290, 3), (12, .iconst 2, 1), (13, .if_icmp .ne 19, 3), (16, .aload_n 0, 1), (17, .getfield 280, 3), (20, .lload_n 1, 1), (21, .lload_n 3, 1), (22, .invokestatic 208, 3), (25, .ifCond .eq 7, 3), (28, .iconst 1, 1), (29, .goto 4, 3), (32, .iconst 0, 1), (33, .invokevirtual 303, 3), (36, .iload 5, 2), (38, .ireturn, 1)]
theorem dX12_number : ∀ q ∈ tbX12_number, decode prog_14_method_38_code q.1 = .ok q.2 := by decide +kernel
set_option maxRecDepth 20000 in
theorem cX12_number (l : Launch) (w : WX) (hL : Lay w) (t : Nat) (ht : Wat w t 12 0) (p1 : Int64) (p3 : Int64) (M : Mem) : Ct l w yX12_number prog_14_method_38_code 6 (Option.some FieldType.int) 3 61 evIM emM [.ref t, .long p1, .long p3] M (FX12_number t p1 p3 M) := by
  refine ct_of (by decide) (Nat.le_of_ble_eq_true rfl) (fun x hl hx hb hz => ?_)
  subst hl
  have hd : ∀ i, DAt (xc x).code (tbX12_number[i]?) := fun i => by rw [hb]; exact dat_of dX12_number i
  show C x w (Qn x w evIM emM) 6 0 [(0, .ref t), (1, .long p1), (3, .long p3)] [] M (FX12_number t p1 p3 M)
  unfold FX12_number
  refine r_aload_n (pc' := 1) hx (hd 0) rfl 0 rfl rfl ?_
  refine r_get (pc' := 4) (v := .long (mJ M t 17)) hx (hd 1) fl_12_280 ht rfl (by decide) rfl ?_
  refine r_l2i (pc' := 5) hx (hd 2) rfl ?_
  refine r_nmI (fun v1 => ?_)
  refine r_istore (pc' := 7) (L' := [(5, .int v1), (0, .ref t), (1, .long p1), (3, .long p3)]) hx (hd 3) (by decide) rfl rfl ?_
  refine r_aload_n (pc' := 8) hx (hd 4) rfl 1 rfl rfl ?_
  refine r_aload_n (pc' := 9) hx (hd 5) rfl 1 rfl rfl ?_
  refine r_get (pc' := 12) (v := .int (mI M t 16)) hx (hd 6) fl_12_290 ht rfl (by decide) rfl ?_
  refine r_iconst (pc' := 13) (v := 2) hx (hd 7) (by decide) rfl ?_
  refine r_jn1 33 (fun v2 => [(5, .int v1)]) (fun v2 => [.int v2, .ref t]) (fun v2 => M) (fun v2 => ?_) (fun j3 hj4 => ?_)
  · skip
    refine r_callVU (pc' := 36) (As := [.int v2]) (rest := []) hx (hd 18) md_X12_must mi_X12_must ms_X12_must ml_12_303 (cX12_must (xl x) w hL t ht v2 M) ht rfl (by decide) ⟨Nat.le_of_ble_eq_true rfl, Nat.le_of_ble_eq_true rfl⟩ rfl rfl (Nat.le_of_ble_eq_true rfl) rfl (fun M5 => ?_)
    refine r_iload (pc' := 38) hx (hd 19) 0 rfl rfl ?_
    exact r_iret hx (hd 20) rfl rfl hz
  refine r_jn0 32 ([(5, .int v1)]) ([.ref t]) (M) (?_) (fun j6 hj7 => ?_)
  · skip
    refine r_iconst (pc' := 33) (v := 0) hx (hd 17) (by decide) rfl ?_
    exact hj4 0
  refine r_icmp_ne (tgt := 32) (pc' := 16) hx (hd 8) (by decide) (fun _ => ?_) rfl (fun _ => ?_)
  · skip
    refine r_sub [0] rfl ?_
    exact hj7
  · skip
    refine r_aload_n (pc' := 17) hx (hd 9) rfl 1 rfl rfl ?_
    refine r_get (pc' := 20) (v := .long (mJ M t 17)) hx (hd 10) fl_12_280 ht rfl (by decide) rfl ?_
    refine r_lload_n (pc' := 21) hx (hd 11) rfl 2 rfl rfl ?_
    refine r_lload_n (pc' := 22) hx (hd 12) rfl 3 rfl rfl ?_
    refine r_callS (pc' := 25) (As := [.long (mJ M t 17), .long p1, .long p3]) (rest := [.ref t]) hx (hd 13) md_X12_in mst_X12_in ml_12_208 (cX12_in (xl x) w hL (mJ M t 17) p1 p3 M) ⟨Nat.le_of_ble_eq_true rfl, Nat.le_of_ble_eq_true rfl⟩ rfl rfl (Nat.le_of_ble_eq_true rfl) (fun r8 => .int r8 :: [.ref t]) (fun _ => M) (fun _ => ⟨rfl, rfl⟩) rfl (fun r8 _ => ?_)
    refine r_if_eq (tgt := 32) (pc' := 28) hx (hd 14) (by decide) (fun _ => ?_) rfl (fun _ => ?_)
    · skip
      refine r_sub [0] rfl ?_
      exact hj7
    · skip
      refine r_iconst (pc' := 29) (v := 1) hx (hd 15) (by decide) rfl ?_
      refine r_goto (tgt := 33) hx (hd 16) (by decide) ?_
      refine r_sub [0] rfl ?_
      exact hj4 1
abbrev yX12_readPart : MethodName := ({ cls := "CribbageRoomModel", name := "readPart", desc := "()I" } : Jvm.MethodName)
def tbX12_readPart : List (Nat × Instr × Nat) := [(0, .aload_n 0, 1), (1, .bipush 91, 2), (3, .invokevirtual 341, 3), (6, .ifCond .eq 11, 3), (9, .aload_n 0, 1), (10, .bipush 32, 2), (12, .invokevirtual 344, 3), (15, .iconst 1, 1), (16, .ireturn, 1), (17, .aload_n 0, 1), (18, .getfield 347, 3), (21, .ifCond .eq 10, 3), (24, .aload_n 0, 1), (25, .invokevirtual 350, 3), (28, .goto 7, 3), (31, .aload_n 0, 1), (32, .invokevirtual 354, 3), (35, .istore_n 1, 1), (36, .aload_n 0, 1), (37, .getfield 290, 3), (40, .iconst 2, 1), (41, .if_icmp .ne 18, 3), (44, .aload_n 0, 1), (45, .getfield 280, 3), (48, .ldc2_w 357, 3), (51, .lcmp, 1), (52, .ifCond .gt 7, 3), (55, .iconst 1, 1), (56, .goto 4, 3), (59, .iconst 0, 1), (60, .istore_n 2, 1), (61, .aload_n 0, 1), (62, .iload_n 1, 1), (63, .iconst (-1), 1), (64, .if_icmp .ne 7, 3), (67, .iload_n 2, 1), (68, .ifCond .eq 7, 3), (71, .iconst 1, 1), (72, .goto 4, 3), (75, .iconst 0, 1), (76, .iload_n 1, 1), (77, .iconst (-1), 1), (78, .if_icmp .ne 7, 3), (81, .iconst 0, 1), (82, .goto 4, 3), (85, .iload_n 1, 1), (86, .iload_n 2, 1), (87, .ifCond .eq 11, 3), (90, .aload_n 0, 1), (91, .getfield 280, 3), (94, .l2i, 1), (95, .goto 4, 3), (98, .iconst 0, 1), (99, .invokevirtual 359, 3), (102, .aload_n 0, 1), (103, .getfield 347, 3), (106, .ifCond .eq 47, 3), (109, .iload_n 1, 1), (110, .bipush 6, 2), (112, .if_icmp .lt 41, 3), (115, .aload_n 0, 1), (116, .getfield 270, 3), (119, .ifCond .ne 34, 3), (122, .aload_n 0, 1), (123, .getfield 307, 3), (126, .iconst 1, 1), (127, .isub, 1), (128, .istore_n 3, 1), (129, .aload_n 0, 1), (130, .getfield 48, 3), (133, .iload_n 3, 1), (134, .aload_n 0, 1), (135, .lconst 0, 1), (136, .iload_n 1, 1), (137, .bipush 6, 2), (139, .if_icmp .ne 7, 3), (142, .lconst 1, 1), (143, .goto 6, 3), (146, .ldc2_w 363, 3), (149, .invokevirtual 365, 3), (152, .iastore, 1), (153, .iconst 3, 1), (154, .ireturn, 1)]
theorem dX12_readPart : ∀ q ∈ tbX12_readPart, decode prog_14_method_50_code q.1 = .ok q.2 := by decide +kernel
set_option maxRecDepth 20000 in
theorem cX12_readPart (l : Launch) (w : WX) (hL : Lay w) (t : Nat) (ht : Wat w t 12 0) (M : Mem) : Ct l w yX12_readPart prog_14_method_50_code 4 (Option.some FieldType.int) 4 86 evIM emM [.ref t] M (FX12_readPart t M) := by
  refine ct_of (by decide) (Nat.le_of_ble_eq_true rfl) (fun x hl hx hb hz => ?_)
  subst hl
  have hd : ∀ i, DAt (xc x).code (tbX12_readPart[i]?) := fun i => by rw [hb]; exact dat_of dX12_readPart i
  show C x w (Qn x w evIM emM) 4 0 [(0, .ref t)] [] M (FX12_readPart t M)
  unfold FX12_readPart
  refine r_aload_n (pc' := 1) hx (hd 0) rfl 0 rfl rfl ?_
  refine r_bipush (pc' := 3) (v := 91) hx (hd 1) (by decide) rfl ?_
  refine r_callV (pc' := 6) (As := [.int 91]) (rest := []) hx (hd 2) md_X12_isSign mi_X12_isSign ms_X12_isSign ml_12_341 (cX12_isSign (xl x) w hL t ht 91 M) ht rfl (by decide) ⟨Nat.le_of_ble_eq_true rfl, Nat.le_of_ble_eq_true rfl⟩ rfl rfl (Nat.le_of_ble_eq_true rfl) (fun r1 => .int r1 :: []) (fun _ => M) (fun _ => ⟨rfl, rfl⟩) rfl (fun r1 _ => ?_)
  refine r_if_eq (tgt := 17) (pc' := 9) hx (hd 3) (by decide) (fun _ => ?_) rfl (fun _ => ?_)
  · skip
    refine r_aload_n (pc' := 18) hx (hd 9) rfl 0 rfl rfl ?_
    refine r_get (pc' := 21) (v := .int (mI M t 20)) hx (hd 10) fl_12_347 ht rfl (by decide) rfl ?_
    refine r_jn1 35 (fun v2 => [(0, .ref t)]) (fun v2 => [.int v2]) (fun v2 => M) (fun v2 => ?_) (fun j3 hj4 => ?_)
    · skip
      refine r_istore_n (pc' := 36) (L' := [(1, .int v2), (0, .ref t)]) hx (hd 17) rfl (by decide) rfl rfl ?_
      refine r_aload_n (pc' := 37) hx (hd 18) rfl 1 rfl rfl ?_
      refine r_get (pc' := 40) (v := .int (mI M t 16)) hx (hd 19) fl_12_290 ht rfl (by decide) rfl ?_
      refine r_iconst (pc' := 41) (v := 2) hx (hd 20) (by decide) rfl ?_
      refine r_jn1 60 (fun v5 => [(0, .ref t), (1, .int v2)]) (fun v5 => [.int v5]) (fun v5 => M) (fun v5 => ?_) (fun j6 hj7 => ?_)
      · skip
        refine r_istore_n (pc' := 61) (L' := [(2, .int v5), (0, .ref t), (1, .int v2)]) hx (hd 30) rfl (by decide) rfl rfl ?_
        refine r_aload_n (pc' := 62) hx (hd 31) rfl 1 rfl rfl ?_
        refine r_iload_n (pc' := 63) hx (hd 32) rfl 2 rfl rfl ?_
        refine r_iconst (pc' := 64) (v := (-1)) hx (hd 33) (by decide) rfl ?_
        refine r_jn1 76 (fun v8 => [(0, .ref t), (1, .int v2), (2, .int v5)]) (fun v8 => [.int v8, .ref t]) (fun v8 => M) (fun v8 => ?_) (fun j9 hj10 => ?_)
        · skip
          refine r_iload_n (pc' := 77) hx (hd 40) rfl 1 rfl rfl ?_
          refine r_iconst (pc' := 78) (v := (-1)) hx (hd 41) (by decide) rfl ?_
          refine r_jn1 86 (fun v11 => [(0, .ref t), (1, .int v2), (2, .int v5)]) (fun v11 => [.int v11, .int v8, .ref t]) (fun v11 => M) (fun v11 => ?_) (fun j12 hj13 => ?_)
          · skip
            refine r_iload_n (pc' := 87) hx (hd 46) rfl 2 rfl rfl ?_
            refine r_jn1 99 (fun v14 => [(0, .ref t), (1, .int v2)]) (fun v14 => [.int v14, .int v11, .int v8, .ref t]) (fun v14 => M) (fun v14 => ?_) (fun j15 hj16 => ?_)
            · skip
              refine r_callVU (pc' := 102) (As := [.int v8, .int v11, .int v14]) (rest := []) hx (hd 53) md_X12_leaf mi_X12_leaf ms_X12_leaf ml_12_359 (cX12_leaf (xl x) w hL t ht v8 v11 v14 M) ht rfl (by decide) ⟨Nat.le_of_ble_eq_true rfl, Nat.le_of_ble_eq_true rfl⟩ rfl rfl (Nat.le_of_ble_eq_true rfl) rfl (fun M17 => ?_)
              refine r_aload_n (pc' := 103) hx (hd 54) rfl 0 rfl rfl ?_
              refine r_get (pc' := 106) (v := .int (mI M17 t 20)) hx (hd 55) fl_12_347 ht rfl (by decide) rfl ?_
              refine r_jn1 153 (fun M18 => []) (fun M18 => []) (fun M18 => M18) (fun M18 => ?_) (fun j19 hj20 => ?_)
              · skip
                refine r_iconst (pc' := 154) (v := 3) hx (hd 81) (by decide) rfl ?_
                exact r_iret hx (hd 82) rfl rfl hz
              refine r_if_eq (tgt := 153) (pc' := 109) hx (hd 56) (by decide) (fun _ => ?_) rfl (fun _ => ?_)
              · skip
                refine r_sub [] rfl ?_
                exact hj20 M17
              · skip
                refine r_iload_n (pc' := 110) hx (hd 57) rfl 1 rfl rfl ?_
                refine r_bipush (pc' := 112) (v := 6) hx (hd 58) (by decide) rfl ?_
                refine r_icmp_lt (tgt := 153) (pc' := 115) hx (hd 59) (by decide) (fun _ => ?_) rfl (fun _ => ?_)
                · skip
                  refine r_sub [] rfl ?_
                  exact hj20 M17
                · skip
                  refine r_aload_n (pc' := 116) hx (hd 60) rfl 0 rfl rfl ?_
                  refine r_get (pc' := 119) (v := .int (mI M17 t 19)) hx (hd 61) fl_12_270 ht rfl (by decide) rfl ?_
                  refine r_if_ne (tgt := 153) (pc' := 122) hx (hd 62) (by decide) (fun _ => ?_) rfl (fun _ => ?_)
                  · skip
                    refine r_sub [] rfl ?_
                    exact hj20 M17
                  · skip
                    refine r_aload_n (pc' := 123) hx (hd 63) rfl 0 rfl rfl ?_
                    refine r_get (pc' := 126) (v := .int (mI M17 t 23)) hx (hd 64) fl_12_307 ht rfl (by decide) rfl ?_
                    refine r_iconst (pc' := 127) (v := 1) hx (hd 65) (by decide) rfl ?_
                    refine r_isub (pc' := 128) hx (hd 66) rfl ?_
                    refine r_nmI (fun v21 => ?_)
                    refine r_istore_n (pc' := 129) (L' := [(3, .int v21), (0, .ref t), (1, .int v2)]) hx (hd 67) rfl (by decide) rfl rfl ?_
                    refine r_aload_n (pc' := 130) hx (hd 68) rfl 1 rfl rfl ?_
                    refine r_get (pc' := 133) (v := .ref (t + 12)) hx (hd 69) fl_12_48 ht rfl (by decide) rfl ?_
                    have h22 := hL.1 _ _ _ ht 25 12 20 400 rfl
                    refine r_iload_n (pc' := 134) hx (hd 70) rfl 0 rfl rfl ?_
                    refine r_aload_n (pc' := 135) hx (hd 71) rfl 1 rfl rfl ?_
                    refine r_lconst (pc' := 136) (v := 0) hx (hd 72) (by decide) rfl ?_
                    refine r_iload_n (pc' := 137) hx (hd 73) rfl 2 rfl rfl ?_
                    refine r_bipush (pc' := 139) (v := 6) hx (hd 74) (by decide) rfl ?_
                    refine r_jn1 149 (fun v23 => []) (fun v23 => [.long v23, .long 0, .ref t, .int v21, .ref (t + 12)]) (fun v23 => M17) (fun v23 => ?_) (fun j24 hj25 => ?_)
                    · skip
                      refine r_callVI (pc' := 152) (As := [.long 0, .long v23]) (rest := [.int v21, .ref (t + 12)]) hx (hd 79) md_X12_number mi_X12_number ms_X12_number ml_12_365 (cX12_number (xl x) w hL t ht 0 v23 M17) ht rfl (by decide) ⟨Nat.le_of_ble_eq_true rfl, Nat.le_of_ble_eq_true rfl⟩ rfl rfl (Nat.le_of_ble_eq_true rfl) (fun r27 => .int r27 :: [.int v21, .ref (t + 12)]) (fun _ => rfl) rfl (fun r27 M26 => ?_)
                      refine r_gd (fun h29 => ?_)
                      refine r_iast (pc' := 153) (k := ix v21) hx (hd 80) h22 h29 rfl rfl (fun M28 => ?_)
                      exact hj20 M28
                    refine r_icmp_ne (tgt := 146) (pc' := 142) hx (hd 75) (by decide) (fun _ => ?_) rfl (fun _ => ?_)
                    · skip
                      refine r_ldc2 (pc' := 149) hx (hd 78) kc_12_363 rfl ?_
                      refine r_sub [] rfl ?_
                      exact hj25 11
                    · skip
                      refine r_lconst (pc' := 143) (v := 1) hx (hd 76) (by decide) rfl ?_
                      refine r_goto (tgt := 149) hx (hd 77) (by decide) ?_
                      refine r_sub [] rfl ?_
                      exact hj25 1
            refine r_if_eq (tgt := 98) (pc' := 90) hx (hd 47) (by decide) (fun _ => ?_) rfl (fun _ => ?_)
            · skip
              refine r_iconst (pc' := 99) (v := 0) hx (hd 52) (by decide) rfl ?_
              refine r_sub [0, 1] rfl ?_
              exact hj16 0
            · skip
              refine r_aload_n (pc' := 91) hx (hd 48) rfl 0 rfl rfl ?_
              refine r_get (pc' := 94) (v := .long (mJ M t 17)) hx (hd 49) fl_12_280 ht rfl (by decide) rfl ?_
              refine r_l2i (pc' := 95) hx (hd 50) rfl ?_
              refine r_goto (tgt := 99) hx (hd 51) (by decide) ?_
              refine r_sub [0, 1] rfl ?_
              exact hj16 ((mJ M t 17).toInt32)
          refine r_icmp_ne (tgt := 85) (pc' := 81) hx (hd 42) (by decide) (fun _ => ?_) rfl (fun _ => ?_)
          · skip
            refine r_iload_n (pc' := 86) hx (hd 45) rfl 1 rfl rfl ?_
            exact hj13 v2
          · skip
            refine r_iconst (pc' := 82) (v := 0) hx (hd 43) (by decide) rfl ?_
            refine r_goto (tgt := 86) hx (hd 44) (by decide) ?_
            exact hj13 0
        refine r_jn0 71 ([(0, .ref t), (1, .int v2), (2, .int v5)]) ([.ref t]) (M) (?_) (fun j30 hj31 => ?_)
        · skip
          refine r_iconst (pc' := 72) (v := 1) hx (hd 37) (by decide) rfl ?_
          refine r_goto (tgt := 76) hx (hd 38) (by decide) ?_
          exact hj10 1
        refine r_icmp_ne (tgt := 71) (pc' := 67) hx (hd 34) (by decide) (fun _ => ?_) rfl (fun _ => ?_)
        · skip
          refine r_sub [1, 2, 0] rfl ?_
          exact hj31
        · skip
          refine r_iload_n (pc' := 68) hx (hd 35) rfl 0 rfl rfl ?_
          refine r_if_eq (tgt := 75) (pc' := 71) hx (hd 36) (by decide) (fun _ => ?_) rfl (fun _ => ?_)
          · skip
            refine r_iconst (pc' := 76) (v := 0) hx (hd 39) (by decide) rfl ?_
            refine r_sub [1, 2, 0] rfl ?_
            exact hj10 0
          · skip
            refine r_sub [1, 2, 0] rfl ?_
            exact hj31
      refine r_jn0 59 ([(0, .ref t), (1, .int v2)]) ([]) (M) (?_) (fun j32 hj33 => ?_)
      · skip
        refine r_iconst (pc' := 60) (v := 0) hx (hd 29) (by decide) rfl ?_
        exact hj7 0
      refine r_icmp_ne (tgt := 59) (pc' := 44) hx (hd 21) (by decide) (fun _ => ?_) rfl (fun _ => ?_)
      · skip
        refine r_sub [1, 0] rfl ?_
        exact hj33
      · skip
        refine r_aload_n (pc' := 45) hx (hd 22) rfl 1 rfl rfl ?_
        refine r_get (pc' := 48) (v := .long (mJ M t 17)) hx (hd 23) fl_12_280 ht rfl (by decide) rfl ?_
        refine r_ldc2 (pc' := 51) hx (hd 24) kc_12_357 rfl ?_
        refine r_lcmp_gt (tgt := 59) (pc' := 55) hx (hd 25) (hd 26) (by decide) (fun _ => ?_) rfl (fun _ => ?_)
        · skip
          refine r_sub [1, 0] rfl ?_
          exact hj33
        · skip
          refine r_iconst (pc' := 56) (v := 1) hx (hd 27) (by decide) rfl ?_
          refine r_goto (tgt := 60) hx (hd 28) (by decide) ?_
          refine r_sub [1, 0] rfl ?_
          exact hj7 1
    refine r_if_eq (tgt := 31) (pc' := 24) hx (hd 11) (by decide) (fun _ => ?_) rfl (fun _ => ?_)
    · skip
      refine r_aload_n (pc' := 32) hx (hd 15) rfl 0 rfl rfl ?_
      refine r_callV (pc' := 35) (As := []) (rest := []) hx (hd 16) md_X12_partAt mi_X12_partAt ms_X12_partAt ml_12_354 (cX12_partAt (xl x) w hL t ht M) ht rfl (by decide) ⟨Nat.le_of_ble_eq_true rfl, Nat.le_of_ble_eq_true rfl⟩ rfl rfl (Nat.le_of_ble_eq_true rfl) (fun r34 => .int r34 :: []) (fun _ => M) (fun _ => ⟨rfl, rfl⟩) rfl (fun r34 _ => ?_)
      exact hj4 r34
    · skip
      refine r_aload_n (pc' := 25) hx (hd 12) rfl 0 rfl rfl ?_
      refine r_callV (pc' := 28) (As := []) (rest := []) hx (hd 13) md_X12_orderPartAt mi_X12_orderPartAt ms_X12_orderPartAt ml_12_350 (cX12_orderPartAt (xl x) w hL t ht M) ht rfl (by decide) ⟨Nat.le_of_ble_eq_true rfl, Nat.le_of_ble_eq_true rfl⟩ rfl rfl (Nat.le_of_ble_eq_true rfl) (fun r35 => .int r35 :: []) (fun _ => M) (fun _ => ⟨rfl, rfl⟩) rfl (fun r35 _ => ?_)
      refine r_goto (tgt := 35) hx (hd 14) (by decide) ?_
      exact hj4 r35
  · skip
    refine r_aload_n (pc' := 10) hx (hd 4) rfl 0 rfl rfl ?_
    refine r_bipush (pc' := 12) (v := 32) hx (hd 5) (by decide) rfl ?_
    refine r_callVU (pc' := 15) (As := [.int 32]) (rest := []) hx (hd 6) md_X12_openBracket mi_X12_openBracket ms_X12_openBracket ml_12_344 (cX12_openBracket (xl x) w hL t ht 32 M) ht rfl (by decide) ⟨Nat.le_of_ble_eq_true rfl, Nat.le_of_ble_eq_true rfl⟩ rfl rfl (Nat.le_of_ble_eq_true rfl) rfl (fun M36 => ?_)
    refine r_iconst (pc' := 16) (v := 1) hx (hd 7) (by decide) rfl ?_
    exact r_iret hx (hd 8) rfl rfl hz
abbrev yX12_readPlain : MethodName := ({ cls := "CribbageRoomModel", name := "readPlain", desc := "()I" } : Jvm.MethodName)
def tbX12_readPlain : List (Nat × Instr × Nat) := [(0, .aload_n 0, 1), (1, .ldc2_w 369, 3), (4, .invokevirtual 328, 3), (7, .ifCond .eq 16, 3), (10, .aload_n 0, 1), (11, .bipush 28, 2), (13, .iconst 0, 1), (14, .invokevirtual 335, 3), (17, .aload_n 0, 1), (18, .invokevirtual 274, 3), (21, .iconst 0, 1), (22, .ireturn, 1), (23, .aload_n 0, 1), (24, .bipush 40, 2), (26, .invokevirtual 341, 3), (29, .ifCond .eq 11, 3), (32, .aload_n 0, 1), (33, .bipush 31, 2), (35, .invokevirtual 344, 3), (38, .iconst 0, 1), (39, .ireturn, 1), (40, .aload_n 0, 1), (41, .invokevirtual 371, 3), (44, .ireturn, 1)]
theorem dX12_readPlain : ∀ q ∈ tbX12_readPlain, decode prog_14_method_51_code q.1 = .ok q.2 := by decide +kernel
set_option maxRecDepth 20000 in
theorem cX12_readPlain (l : Launch) (w : WX) (hL : Lay w) (t : Nat) (ht : Wat w t 12 0) (M : Mem) : Ct l w yX12_readPlain prog_14_method_51_code 1 (Option.some FieldType.int) 5 109 evIM emM [.ref t] M (FX12_readPlain t M) := by
  refine ct_of (by decide) (Nat.le_of_ble_eq_true rfl) (fun x hl hx hb hz => ?_)
  subst hl
  have hd : ∀ i, DAt (xc x).code (tbX12_readPlain[i]?) := fun i => by rw [hb]; exact dat_of dX12_readPlain i
  show C x w (Qn x w evIM emM) 1 0 [(0, .ref t)] [] M (FX12_readPlain t M)
  unfold FX12_readPlain
  refine r_aload_n (pc' := 1) hx (hd 0) rfl 0 rfl rfl ?_
  refine r_ldc2 (pc' := 4) hx (hd 1) kc_12_369 rfl ?_
  refine r_callV (pc' := 7) (As := [.long 14836]) (rest := []) hx (hd 2) md_X12_isWord mi_X12_isWord ms_X12_isWord ml_12_328 (cX12_isWord (xl x) w hL t ht 14836 M) ht rfl (by decide) ⟨Nat.le_of_ble_eq_true rfl, Nat.le_of_ble_eq_true rfl⟩ rfl rfl (Nat.le_of_ble_eq_true rfl) (fun r1 => .int r1 :: []) (fun _ => M) (fun _ => ⟨rfl, rfl⟩) rfl (fun r1 _ => ?_)
  refine r_if_eq (tgt := 23) (pc' := 10) hx (hd 3) (by decide) (fun _ => ?_) rfl (fun _ => ?_)
  · skip
    refine r_aload_n (pc' := 24) hx (hd 12) rfl 0 rfl rfl ?_
    refine r_bipush (pc' := 26) (v := 40) hx (hd 13) (by decide) rfl ?_
    refine r_callV (pc' := 29) (As := [.int 40]) (rest := []) hx (hd 14) md_X12_isSign mi_X12_isSign ms_X12_isSign ml_12_341 (cX12_isSign (xl x) w hL t ht 40 M) ht rfl (by decide) ⟨Nat.le_of_ble_eq_true rfl, Nat.le_of_ble_eq_true rfl⟩ rfl rfl (Nat.le_of_ble_eq_true rfl) (fun r2 => .int r2 :: []) (fun _ => M) (fun _ => ⟨rfl, rfl⟩) rfl (fun r2 _ => ?_)
    refine r_if_eq (tgt := 40) (pc' := 32) hx (hd 15) (by decide) (fun _ => ?_) rfl (fun _ => ?_)
    · skip
      refine r_aload_n (pc' := 41) hx (hd 21) rfl 0 rfl rfl ?_
      refine r_callVI (pc' := 44) (As := []) (rest := []) hx (hd 22) md_X12_readPart mi_X12_readPart ms_X12_readPart ml_12_371 (cX12_readPart (xl x) w hL t ht M) ht rfl (by decide) ⟨Nat.le_of_ble_eq_true rfl, Nat.le_of_ble_eq_true rfl⟩ rfl rfl (Nat.le_of_ble_eq_true rfl) (fun r4 => .int r4 :: []) (fun _ => rfl) rfl (fun r4 M3 => ?_)
      exact r_iret hx (hd 23) rfl rfl hz
    · skip
      refine r_aload_n (pc' := 33) hx (hd 16) rfl 0 rfl rfl ?_
      refine r_bipush (pc' := 35) (v := 31) hx (hd 17) (by decide) rfl ?_
      refine r_callVU (pc' := 38) (As := [.int 31]) (rest := []) hx (hd 18) md_X12_openBracket mi_X12_openBracket ms_X12_openBracket ml_12_344 (cX12_openBracket (xl x) w hL t ht 31 M) ht rfl (by decide) ⟨Nat.le_of_ble_eq_true rfl, Nat.le_of_ble_eq_true rfl⟩ rfl rfl (Nat.le_of_ble_eq_true rfl) rfl (fun M5 => ?_)
      refine r_iconst (pc' := 39) (v := 0) hx (hd 19) (by decide) rfl ?_
      exact r_iret hx (hd 20) rfl rfl hz
  · skip
    refine r_aload_n (pc' := 11) hx (hd 4) rfl 0 rfl rfl ?_
    refine r_bipush (pc' := 13) (v := 28) hx (hd 5) (by decide) rfl ?_
    refine r_iconst (pc' := 14) (v := 0) hx (hd 6) (by decide) rfl ?_
    refine r_callVU (pc' := 17) (As := [.int 28, .int 0]) (rest := []) hx (hd 7) md_X12_push mi_X12_push ms_X12_push ml_12_335 (cX12_push (xl x) w hL t ht 28 0 M) ht rfl (by decide) ⟨Nat.le_of_ble_eq_true rfl, Nat.le_of_ble_eq_true rfl⟩ rfl rfl (Nat.le_of_ble_eq_true rfl) rfl (fun M6 => ?_)
    refine r_aload_n (pc' := 18) hx (hd 8) rfl 0 rfl rfl ?_
    refine r_callVU (pc' := 21) (As := []) (rest := []) hx (hd 9) md_X12_next mi_X12_next ms_X12_next ml_12_274 (cX12_next (xl x) w hL t ht M6) ht rfl (by decide) ⟨Nat.le_of_ble_eq_true rfl, Nat.le_of_ble_eq_true rfl⟩ rfl rfl (Nat.le_of_ble_eq_true rfl) rfl (fun M7 => ?_)
    refine r_iconst (pc' := 22) (v := 0) hx (hd 10) (by decide) rfl ?_
    exact r_iret hx (hd 11) rfl rfl hz
abbrev yX12_binds : MethodName := ({ cls := "CribbageRoomModel", name := "binds", desc := "(I)I" } : Jvm.MethodName)
def tbX12_binds : List (Nat × Instr × Nat) := [(0, .iload_n 0, 1), (1, .bipush 31, 2), (3, .if_icmp .lt 7, 3), (6, .iconst 0, 1), (7, .goto 55, 3), (10, .iload_n 0, 1), (11, .bipush 30, 2), (13, .if_icmp .ne 7, 3), (16, .iconst 1, 1), (17, .goto 45, 3), (20, .iload_n 0, 1), (21, .bipush 29, 2), (23, .if_icmp .ne 7, 3), (26, .iconst 2, 1), (27, .goto 35, 3), (30, .iload_n 0, 1), (31, .bipush 28, 2), (33, .if_icmp .ne 7, 3), (36, .iconst 3, 1), (37, .goto 25, 3), (40, .iload_n 0, 1), (41, .bipush 25, 2), (43, .if_icmp .lt 7, 3), (46, .iconst 4, 1), (47, .goto 15, 3), (50, .iload_n 0, 1), (51, .bipush 22, 2), (53, .if_icmp .lt 8, 3), (56, .bipush 6, 2), (58, .goto 4, 3), (61, .iconst 5, 1), (62, .ireturn, 1)]
theorem dX12_binds : ∀ q ∈ tbX12_binds, decode prog_14_method_42_code q.1 = .ok q.2 := by decide +kernel
set_option maxRecDepth 20000 in
theorem cX12_binds (l : Launch) (w : WX) (hL : Lay w) (p0 : Int32) (M : Mem) : Ct l w yX12_binds prog_14_method_42_code 1 (Option.some FieldType.int) 0 0 evI (emC M) [.int p0] M (FX12_binds p0) := by
  refine ct_of (by decide) (Nat.le_of_ble_eq_true rfl) (fun x hl hx hb hz => ?_)
  subst hl
  have hd : ∀ i, DAt (xc x).code (tbX12_binds[i]?) := fun i => by rw [hb]; exact dat_of dX12_binds i
  show C x w (Qn x w evI (emC M)) 1 0 [(0, .int p0)] [] M (FX12_binds p0)
  unfold FX12_binds
  refine r_iload_n (pc' := 1) hx (hd 0) rfl 0 rfl rfl ?_
  refine r_bipush (pc' := 3) (v := 31) hx (hd 1) (by decide) rfl ?_
  refine r_jn1 62 (fun v1 => []) (fun v1 => [.int v1]) (fun v1 => M) (fun v1 => ?_) (fun j2 hj3 => ?_)
  · skip
    exact r_iret hx (hd 31) rfl rfl hz
  refine r_icmp_lt (tgt := 10) (pc' := 6) hx (hd 2) (by decide) (fun _ => ?_) rfl (fun _ => ?_)
  · skip
    refine r_iload_n (pc' := 11) hx (hd 5) rfl 0 rfl rfl ?_
    refine r_bipush (pc' := 13) (v := 30) hx (hd 6) (by decide) rfl ?_
    refine r_icmp_ne (tgt := 20) (pc' := 16) hx (hd 7) (by decide) (fun _ => ?_) rfl (fun _ => ?_)
    · skip
      refine r_iload_n (pc' := 21) hx (hd 10) rfl 0 rfl rfl ?_
      refine r_bipush (pc' := 23) (v := 29) hx (hd 11) (by decide) rfl ?_
      refine r_icmp_ne (tgt := 30) (pc' := 26) hx (hd 12) (by decide) (fun _ => ?_) rfl (fun _ => ?_)
      · skip
        refine r_iload_n (pc' := 31) hx (hd 15) rfl 0 rfl rfl ?_
        refine r_bipush (pc' := 33) (v := 28) hx (hd 16) (by decide) rfl ?_
        refine r_icmp_ne (tgt := 40) (pc' := 36) hx (hd 17) (by decide) (fun _ => ?_) rfl (fun _ => ?_)
        · skip
          refine r_iload_n (pc' := 41) hx (hd 20) rfl 0 rfl rfl ?_
          refine r_bipush (pc' := 43) (v := 25) hx (hd 21) (by decide) rfl ?_
          refine r_icmp_lt (tgt := 50) (pc' := 46) hx (hd 22) (by decide) (fun _ => ?_) rfl (fun _ => ?_)
          · skip
            refine r_iload_n (pc' := 51) hx (hd 25) rfl 0 rfl rfl ?_
            refine r_bipush (pc' := 53) (v := 22) hx (hd 26) (by decide) rfl ?_
            refine r_icmp_lt (tgt := 61) (pc' := 56) hx (hd 27) (by decide) (fun _ => ?_) rfl (fun _ => ?_)
            · skip
              refine r_iconst (pc' := 62) (v := 5) hx (hd 30) (by decide) rfl ?_
              refine r_sub [] rfl ?_
              exact hj3 5
            · skip
              refine r_bipush (pc' := 58) (v := 6) hx (hd 28) (by decide) rfl ?_
              refine r_goto (tgt := 62) hx (hd 29) (by decide) ?_
              refine r_sub [] rfl ?_
              exact hj3 6
          · skip
            refine r_iconst (pc' := 47) (v := 4) hx (hd 23) (by decide) rfl ?_
            refine r_goto (tgt := 62) hx (hd 24) (by decide) ?_
            refine r_sub [] rfl ?_
            exact hj3 4
        · skip
          refine r_iconst (pc' := 37) (v := 3) hx (hd 18) (by decide) rfl ?_
          refine r_goto (tgt := 62) hx (hd 19) (by decide) ?_
          refine r_sub [] rfl ?_
          exact hj3 3
      · skip
        refine r_iconst (pc' := 27) (v := 2) hx (hd 13) (by decide) rfl ?_
        refine r_goto (tgt := 62) hx (hd 14) (by decide) ?_
        refine r_sub [] rfl ?_
        exact hj3 2
    · skip
      refine r_iconst (pc' := 17) (v := 1) hx (hd 8) (by decide) rfl ?_
      refine r_goto (tgt := 62) hx (hd 9) (by decide) ?_
      refine r_sub [] rfl ?_
      exact hj3 1
  · skip
    refine r_iconst (pc' := 7) (v := 0) hx (hd 3) (by decide) rfl ?_
    refine r_goto (tgt := 62) hx (hd 4) (by decide) ?_
    refine r_sub [] rfl ?_
    exact hj3 0
abbrev yX12_settle : MethodName := ({ cls := "CribbageRoomModel", name := "settle", desc := "(I)V" } : Jvm.MethodName)
def tbX12_settle : List (Nat × Instr × Nat) := [(0, .aload_n 0, 1), (1, .getfield 310, 3), (4, .ifCond .le 97, 3), (7, .aload_n 0, 1), (8, .getfield 51, 3), (11, .aload_n 0, 1), (12, .getfield 310, 3), (15, .iconst 1, 1), (16, .isub, 1), (17, .iaload, 1), (18, .invokestatic 313, 3), (21, .iload_n 1, 1), (22, .if_icmp .lt 79, 3), (25, .aload_n 0, 1), (26, .dup, 1), (27, .getfield 310, 3), (30, .iconst 1, 1), (31, .isub, 1), (32, .putfield 310, 3), (35, .aload_n 0, 1), (36, .getfield 51, 3), (39, .aload_n 0, 1), (40, .getfield 310, 3), (43, .iaload, 1), (44, .bipush 29, 2), (46, .if_icmp .eq 17, 3), (49, .aload_n 0, 1), (50, .getfield 51, 3), (53, .aload_n 0, 1), (54, .getfield 310, 3), (57, .iaload, 1), (58, .bipush 30, 2), (60, .if_icmp .ne 24, 3), (63, .aload_n 0, 1), (64, .getfield 48, 3), (67, .aload_n 0, 1), (68, .getfield 54, 3), (71, .aload_n 0, 1), (72, .getfield 310, 3), (75, .iaload, 1), (76, .aload_n 0, 1), (77, .getfield 307, 3), (80, .iastore, 1), (81, .goto (-81), 3), (84, .aload_n 0, 1), (85, .aload_n 0, 1), (86, .getfield 51, 3), (89, .aload_n 0, 1), (90, .getfield 310, 3), (93, .iaload, 1), (94, .iconst 0, 1), (95, .invokevirtual 316, 3), (98, .goto (-98), 3), (101, .return_, 1)]
theorem dX12_settle : ∀ q ∈ tbX12_settle, decode prog_14_method_43_code q.1 = .ok q.2 := by decide +kernel
set_option maxRecDepth 20000 in
theorem cX12_settle (l : Launch) (w : WX) (hL : Lay w) (t : Nat) (ht : Wat w t 12 0) (p1 : Int32) (M : Mem) : Ct l w yX12_settle prog_14_method_43_code 2 (Option.none : Option FieldType) 1 22 evU emU [.ref t, .int p1] M (FX12_settle t p1 M) := by
  refine ct_of (by decide) (Nat.le_of_ble_eq_true rfl) (fun x hl hx hb hz => ?_)
  subst hl
  have hd : ∀ i, DAt (xc x).code (tbX12_settle[i]?) := fun i => by rw [hb]; exact dat_of dX12_settle i
  show C x w (Qn x w evU emU) 2 0 [(0, .ref t), (1, .int p1)] [] M (FX12_settle t p1 M)
  unfold FX12_settle
  refine r_wl1 (fun M1 => [(0, .ref t), (1, .int p1)]) (fun M1 => []) (fun M1 => M1) (fun M1 rec2 ih3 => ?_) fuel M
  refine r_aload_n (pc' := 1) hx (hd 0) rfl 0 rfl rfl ?_
  refine r_get (pc' := 4) (v := .int (mI M1 t 29)) hx (hd 1) fl_12_310 ht rfl (by decide) rfl ?_
  refine r_jn0 101 ([]) ([]) (M1) (?_) (fun j4 hj5 => ?_)
  · skip
    exact r_vret hx (hd 53) rfl rfl hz
  refine r_if_le (tgt := 101) (pc' := 7) hx (hd 2) (by decide) (fun _ => ?_) rfl (fun _ => ?_)
  · skip
    refine r_sub [] rfl ?_
    exact hj5
  · skip
    refine r_aload_n (pc' := 8) hx (hd 3) rfl 0 rfl rfl ?_
    refine r_get (pc' := 11) (v := .ref (t + 13)) hx (hd 4) fl_12_51 ht rfl (by decide) rfl ?_
    have h6 := hL.1 _ _ _ ht 27 13 20 400 rfl
    refine r_aload_n (pc' := 12) hx (hd 5) rfl 0 rfl rfl ?_
    refine r_get (pc' := 15) (v := .int (mI M1 t 29)) hx (hd 6) fl_12_310 ht rfl (by decide) rfl ?_
    refine r_iconst (pc' := 16) (v := 1) hx (hd 7) (by decide) rfl ?_
    refine r_isub (pc' := 17) hx (hd 8) rfl ?_
    refine r_gd (fun h7 => ?_)
    refine r_iald (pc' := 18) (k := ix ((mI M1 t 29) - 1)) hx (hd 9) h6 h7 rfl rfl ?_
    refine r_callS (pc' := 21) (As := [.int (mI M1 (t + 13) (ix ((mI M1 t 29) - 1)))]) (rest := []) hx (hd 10) md_X12_binds mst_X12_binds ml_12_313 (cX12_binds (xl x) w hL (mI M1 (t + 13) (ix ((mI M1 t 29) - 1))) M1) ⟨Nat.le_of_ble_eq_true rfl, Nat.le_of_ble_eq_true rfl⟩ rfl rfl (Nat.le_of_ble_eq_true rfl) (fun r8 => .int r8 :: []) (fun _ => M1) (fun _ => ⟨rfl, rfl⟩) rfl (fun r8 _ => ?_)
    refine r_iload_n (pc' := 22) hx (hd 11) rfl 1 rfl rfl ?_
    refine r_icmp_lt (tgt := 101) (pc' := 25) hx (hd 12) (by decide) (fun _ => ?_) rfl (fun _ => ?_)
    · skip
      refine r_sub [] rfl ?_
      exact hj5
    · skip
      refine r_aload_n (pc' := 26) hx (hd 13) rfl 0 rfl rfl ?_
      refine r_dup (pc' := 27) hx (hd 14) rfl rfl ?_
      refine r_get (pc' := 30) (v := .int (mI M1 t 29)) hx (hd 15) fl_12_310 ht rfl (by decide) rfl ?_
      refine r_iconst (pc' := 31) (v := 1) hx (hd 16) (by decide) rfl ?_
      refine r_isub (pc' := 32) hx (hd 17) rfl ?_
      refine r_putI (pc' := 35) hx (hd 18) fp_12_310 ht rfl (by decide) rfl (fun M9 => ?_)
      refine r_aload_n (pc' := 36) hx (hd 19) rfl 0 rfl rfl ?_
      refine r_get (pc' := 39) (v := .ref (t + 13)) hx (hd 20) fl_12_51 ht rfl (by decide) rfl ?_
      have h10 := hL.1 _ _ _ ht 27 13 20 400 rfl
      refine r_aload_n (pc' := 40) hx (hd 21) rfl 0 rfl rfl ?_
      refine r_get (pc' := 43) (v := .int (mI M9 t 29)) hx (hd 22) fl_12_310 ht rfl (by decide) rfl ?_
      refine r_gd (fun h11 => ?_)
      refine r_iald (pc' := 44) (k := ix (mI M9 t 29)) hx (hd 23) h10 h11 rfl rfl ?_
      refine r_bipush (pc' := 46) (v := 29) hx (hd 24) (by decide) rfl ?_
      refine r_jn0 63 ([(0, .ref t), (1, .int p1)]) ([]) (M9) (?_) (fun j12 hj13 => ?_)
      · skip
        refine r_aload_n (pc' := 64) hx (hd 33) rfl 0 rfl rfl ?_
        refine r_get (pc' := 67) (v := .ref (t + 12)) hx (hd 34) fl_12_48 ht rfl (by decide) rfl ?_
        have h14 := hL.1 _ _ _ ht 25 12 20 400 rfl
        refine r_aload_n (pc' := 68) hx (hd 35) rfl 0 rfl rfl ?_
        refine r_get (pc' := 71) (v := .ref (t + 14)) hx (hd 36) fl_12_54 ht rfl (by decide) rfl ?_
        have h15 := hL.1 _ _ _ ht 28 14 20 400 rfl
        refine r_aload_n (pc' := 72) hx (hd 37) rfl 0 rfl rfl ?_
        refine r_get (pc' := 75) (v := .int (mI M9 t 29)) hx (hd 38) fl_12_310 ht rfl (by decide) rfl ?_
        refine r_gd (fun h16 => ?_)
        refine r_iald (pc' := 76) (k := ix (mI M9 t 29)) hx (hd 39) h15 h16 rfl rfl ?_
        refine r_aload_n (pc' := 77) hx (hd 40) rfl 0 rfl rfl ?_
        refine r_get (pc' := 80) (v := .int (mI M9 t 23)) hx (hd 41) fl_12_307 ht rfl (by decide) rfl ?_
        refine r_gd (fun h18 => ?_)
        refine r_iast (pc' := 81) (k := ix (mI M9 (t + 14) (ix (mI M9 t 29)))) hx (hd 42) h14 h18 rfl rfl (fun M17 => ?_)
        refine r_goto (tgt := 0) hx (hd 43) (by decide) ?_
        exact ih3 M17
      refine r_icmp_eq (tgt := 63) (pc' := 49) hx (hd 25) (by decide) (fun _ => ?_) rfl (fun _ => ?_)
      · skip
        exact hj13
      · skip
        refine r_aload_n (pc' := 50) hx (hd 26) rfl 0 rfl rfl ?_
        refine r_get (pc' := 53) (v := .ref (t + 13)) hx (hd 27) fl_12_51 ht rfl (by decide) rfl ?_
        have h19 := hL.1 _ _ _ ht 27 13 20 400 rfl
        refine r_aload_n (pc' := 54) hx (hd 28) rfl 0 rfl rfl ?_
        refine r_get (pc' := 57) (v := .int (mI M9 t 29)) hx (hd 29) fl_12_310 ht rfl (by decide) rfl ?_
        refine r_gd (fun h20 => ?_)
        refine r_iald (pc' := 58) (k := ix (mI M9 t 29)) hx (hd 30) h19 h20 rfl rfl ?_
        refine r_bipush (pc' := 60) (v := 30) hx (hd 31) (by decide) rfl ?_
        refine r_icmp_ne (tgt := 84) (pc' := 63) hx (hd 32) (by decide) (fun _ => ?_) rfl (fun _ => ?_)
        · skip
          refine r_aload_n (pc' := 85) hx (hd 44) rfl 0 rfl rfl ?_
          refine r_aload_n (pc' := 86) hx (hd 45) rfl 0 rfl rfl ?_
          refine r_get (pc' := 89) (v := .ref (t + 13)) hx (hd 46) fl_12_51 ht rfl (by decide) rfl ?_
          have h21 := hL.1 _ _ _ ht 27 13 20 400 rfl
          refine r_aload_n (pc' := 90) hx (hd 47) rfl 0 rfl rfl ?_
          refine r_get (pc' := 93) (v := .int (mI M9 t 29)) hx (hd 48) fl_12_310 ht rfl (by decide) rfl ?_
          refine r_gd (fun h22 => ?_)
          refine r_iald (pc' := 94) (k := ix (mI M9 t 29)) hx (hd 49) h21 h22 rfl rfl ?_
          refine r_iconst (pc' := 95) (v := 0) hx (hd 50) (by decide) rfl ?_
          refine r_callVU (pc' := 98) (As := [.int (mI M9 (t + 13) (ix (mI M9 t 29))), .int 0]) (rest := []) hx (hd 51) md_X12_emit mi_X12_emit ms_X12_emit ml_12_316 (cX12_emit (xl x) w hL t ht (mI M9 (t + 13) (ix (mI M9 t 29))) 0 M9) ht rfl (by decide) ⟨Nat.le_of_ble_eq_true rfl, Nat.le_of_ble_eq_true rfl⟩ rfl rfl (Nat.le_of_ble_eq_true rfl) rfl (fun M23 => ?_)
          refine r_goto (tgt := 0) hx (hd 52) (by decide) ?_
          exact ih3 M23
        · skip
          exact hj13
abbrev yX12_inner : MethodName := ({ cls := "CribbageRoomModel", name := "inner", desc := "()I" } : Jvm.MethodName)
def tbX12_inner : List (Nat × Instr × Nat) := [(0, .iconst (-1), 1), (1, .istore_n 1, 1), (2, .iconst 0, 1), (3, .istore_n 2, 1), (4, .iload_n 2, 1), (5, .aload_n 0, 1), (6, .getfield 310, 3), (9, .if_icmp .ge 31, 3), (12, .aload_n 0, 1), (13, .getfield 51, 3), (16, .iload_n 2, 1), (17, .iaload, 1), (18, .bipush 31, 2), (20, .if_icmp .lt 12, 3), (23, .aload_n 0, 1), (24, .getfield 51, 3), (27, .iload_n 2, 1), (28, .iaload, 1), (29, .goto 4, 3), (32, .iload_n 1, 1), (33, .istore_n 1, 1), (34, .iinc 2 1, 3), (37, .goto (-33), 3), (40, .iload_n 1, 1), (41, .ireturn, 1)]
theorem dX12_inner : ∀ q ∈ tbX12_inner, decode prog_14_method_44_code q.1 = .ok q.2 := by decide +kernel
set_option maxRecDepth 20000 in
theorem cX12_inner (l : Launch) (w : WX) (hL : Lay w) (t : Nat) (ht : Wat w t 12 0) (M : Mem) : Ct l w yX12_inner prog_14_method_44_code 3 (Option.some FieldType.int) 0 0 evI (emC M) [.ref t] M (FX12_inner t M) := by
  refine ct_of (by decide) (Nat.le_of_ble_eq_true rfl) (fun x hl hx hb hz => ?_)
  subst hl
  have hd : ∀ i, DAt (xc x).code (tbX12_inner[i]?) := fun i => by rw [hb]; exact dat_of dX12_inner i
  show C x w (Qn x w evI (emC M)) 3 0 [(0, .ref t)] [] M (FX12_inner t M)
  unfold FX12_inner
  refine r_iconst (pc' := 1) (v := (-1)) hx (hd 0) (by decide) rfl ?_
  refine r_istore_n (pc' := 2) (L' := [(1, .int (-1)), (0, .ref t)]) hx (hd 1) rfl (by decide) rfl rfl ?_
  refine r_iconst (pc' := 3) (v := 0) hx (hd 2) (by decide) rfl ?_
  refine r_istore_n (pc' := 4) (L' := [(2, .int 0), (1, .int (-1)), (0, .ref t)]) hx (hd 3) rfl (by decide) rfl rfl ?_
  refine r_sub [2, 1, 0] rfl ?_
  refine r_wl2 (fun v1 v2 => [(0, .ref t), (1, .int v1), (2, .int v2)]) (fun v1 v2 => []) (fun v1 v2 => M) (fun v1 v2 rec3 ih4 => ?_) fuel (-1) 0
  refine r_iload_n (pc' := 5) hx (hd 4) rfl 2 rfl rfl ?_
  refine r_aload_n (pc' := 6) hx (hd 5) rfl 0 rfl rfl ?_
  refine r_get (pc' := 9) (v := .int (mI M t 29)) hx (hd 6) fl_12_310 ht rfl (by decide) rfl ?_
  refine r_icmp_ge (tgt := 40) (pc' := 12) hx (hd 7) (by decide) (fun _ => ?_) rfl (fun _ => ?_)
  · skip
    refine r_iload_n (pc' := 41) hx (hd 23) rfl 1 rfl rfl ?_
    exact r_iret hx (hd 24) rfl rfl hz
  · skip
    refine r_aload_n (pc' := 13) hx (hd 8) rfl 0 rfl rfl ?_
    refine r_get (pc' := 16) (v := .ref (t + 13)) hx (hd 9) fl_12_51 ht rfl (by decide) rfl ?_
    have h5 := hL.1 _ _ _ ht 27 13 20 400 rfl
    refine r_iload_n (pc' := 17) hx (hd 10) rfl 2 rfl rfl ?_
    refine r_gd (fun h6 => ?_)
    refine r_iald (pc' := 18) (k := ix v2) hx (hd 11) h5 h6 rfl rfl ?_
    refine r_bipush (pc' := 20) (v := 31) hx (hd 12) (by decide) rfl ?_
    refine r_jn1 33 (fun v7 => [(0, .ref t), (2, .int v2)]) (fun v7 => [.int v7]) (fun v7 => M) (fun v7 => ?_) (fun j8 hj9 => ?_)
    · skip
      refine r_istore_n (pc' := 34) (L' := [(1, .int v7), (0, .ref t), (2, .int v2)]) hx (hd 20) rfl (by decide) rfl rfl ?_
      refine r_iinc (pc' := 37) (v := 1) hx (hd 21) 2 rfl (by decide) (by decide) (fun v10 => [(2, .int v10), (1, .int v7), (0, .ref t)]) (fun _ => rfl) rfl (fun v10 => ?_)
      refine r_goto (tgt := 4) hx (hd 22) (by decide) ?_
      refine r_sub [2, 1, 0] rfl ?_
      exact ih4 v7 v10
    refine r_icmp_lt (tgt := 32) (pc' := 23) hx (hd 13) (by decide) (fun _ => ?_) rfl (fun _ => ?_)
    · skip
      refine r_iload_n (pc' := 33) hx (hd 19) rfl 1 rfl rfl ?_
      refine r_sub [0, 2] rfl ?_
      exact hj9 v1
    · skip
      refine r_aload_n (pc' := 24) hx (hd 14) rfl 0 rfl rfl ?_
      refine r_get (pc' := 27) (v := .ref (t + 13)) hx (hd 15) fl_12_51 ht rfl (by decide) rfl ?_
      have h11 := hL.1 _ _ _ ht 27 13 20 400 rfl
      refine r_iload_n (pc' := 28) hx (hd 16) rfl 2 rfl rfl ?_
      refine r_gd (fun h12 => ?_)
      refine r_iald (pc' := 29) (k := ix v2) hx (hd 17) h11 h12 rfl rfl ?_
      refine r_goto (tgt := 33) hx (hd 18) (by decide) ?_
      refine r_sub [0, 2] rfl ?_
      exact hj9 (mI M (t + 13) (ix v2))
abbrev yX12_isCompared : MethodName := ({ cls := "CribbageRoomModel", name := "isCompared", desc := "()Z" } : Jvm.MethodName)
def tbX12_isCompared : List (Nat × Instr × Nat) := [(0, .aload_n 0, 1), (1, .getfield 310, 3), (4, .iconst 1, 1), (5, .isub, 1), (6, .istore_n 1, 1), (7, .iload_n 1, 1), (8, .ifCond .lt 28, 3), (11, .aload_n 0, 1), (12, .getfield 51, 3), (15, .iload_n 1, 1), (16, .iaload, 1), (17, .i2l, 1), (18, .ldc2_w 320, 3), (21, .ldc2_w 322, 3), (24, .invokestatic 208, 3), (27, .ifCond .eq 9, 3), (30, .iinc 1 (-1), 3), (33, .goto (-26), 3), (36, .iload_n 1, 1), (37, .ifCond .lt 26, 3), (40, .aload_n 0, 1), (41, .getfield 51, 3), (44, .iload_n 1, 1), (45, .iaload, 1), (46, .i2l, 1), (47, .ldc2_w 324, 3), (50, .ldc2_w 326, 3), (53, .invokestatic 208, 3), (56, .ifCond .eq 7, 3), (59, .iconst 1, 1), (60, .goto 4, 3), (63, .iconst 0, 1), (64, .ireturn, 1)]
theorem dX12_isCompared : ∀ q ∈ tbX12_isCompared, decode prog_14_method_45_code q.1 = .ok q.2 := by decide +kernel
set_option maxRecDepth 20000 in
theorem cX12_isCompared (l : Launch) (w : WX) (hL : Lay w) (t : Nat) (ht : Wat w t 12 0) (M : Mem) : Ct l w yX12_isCompared prog_14_method_45_code 2 (Option.some FieldType.boolean) 1 25 evI (emC M) [.ref t] M (FX12_isCompared t M) := by
  refine ct_of (by decide) (Nat.le_of_ble_eq_true rfl) (fun x hl hx hb hz => ?_)
  subst hl
  have hd : ∀ i, DAt (xc x).code (tbX12_isCompared[i]?) := fun i => by rw [hb]; exact dat_of dX12_isCompared i
  show C x w (Qn x w evI (emC M)) 2 0 [(0, .ref t)] [] M (FX12_isCompared t M)
  unfold FX12_isCompared
  refine r_aload_n (pc' := 1) hx (hd 0) rfl 0 rfl rfl ?_
  refine r_get (pc' := 4) (v := .int (mI M t 29)) hx (hd 1) fl_12_310 ht rfl (by decide) rfl ?_
  refine r_iconst (pc' := 5) (v := 1) hx (hd 2) (by decide) rfl ?_
  refine r_isub (pc' := 6) hx (hd 3) rfl ?_
  refine r_nmI (fun v1 => ?_)
  refine r_istore_n (pc' := 7) (L' := [(1, .int v1), (0, .ref t)]) hx (hd 4) rfl (by decide) rfl rfl ?_
  refine r_sub [1, 0] rfl ?_
  refine r_wl1 (fun v2 => [(0, .ref t), (1, .int v2)]) (fun v2 => []) (fun v2 => M) (fun v2 rec3 ih4 => ?_) fuel v1
  refine r_iload_n (pc' := 8) hx (hd 5) rfl 1 rfl rfl ?_
  refine r_jn0 36 ([(0, .ref t), (1, .int v2)]) ([]) (M) (?_) (fun j5 hj6 => ?_)
  · skip
    refine r_iload_n (pc' := 37) hx (hd 18) rfl 1 rfl rfl ?_
    refine r_jn1 64 (fun v7 => []) (fun v7 => [.int v7]) (fun v7 => M) (fun v7 => ?_) (fun j8 hj9 => ?_)
    · skip
      refine r_gd (fun h10 => ?_)
      exact r_zret hx (hd 32) h10 rfl rfl hz
    refine r_jn0 63 ([]) ([]) (M) (?_) (fun j11 hj12 => ?_)
    · skip
      refine r_iconst (pc' := 64) (v := 0) hx (hd 31) (by decide) rfl ?_
      exact hj9 0
    refine r_if_lt (tgt := 63) (pc' := 40) hx (hd 19) (by decide) (fun _ => ?_) rfl (fun _ => ?_)
    · skip
      refine r_sub [] rfl ?_
      exact hj12
    · skip
      refine r_aload_n (pc' := 41) hx (hd 20) rfl 0 rfl rfl ?_
      refine r_get (pc' := 44) (v := .ref (t + 13)) hx (hd 21) fl_12_51 ht rfl (by decide) rfl ?_
      have h13 := hL.1 _ _ _ ht 27 13 20 400 rfl
      refine r_iload_n (pc' := 45) hx (hd 22) rfl 1 rfl rfl ?_
      refine r_gd (fun h14 => ?_)
      refine r_iald (pc' := 46) (k := ix v2) hx (hd 23) h13 h14 rfl rfl ?_
      refine r_i2l (pc' := 47) hx (hd 24) rfl ?_
      refine r_ldc2 (pc' := 50) hx (hd 25) kc_12_324 rfl ?_
      refine r_ldc2 (pc' := 53) hx (hd 26) kc_12_326 rfl ?_
      refine r_callS (pc' := 56) (As := [.long (mI M (t + 13) (ix v2)).toInt64, .long 25, .long 27]) (rest := []) hx (hd 27) md_X12_in mst_X12_in ml_12_208 (cX12_in (xl x) w hL ((mI M (t + 13) (ix v2)).toInt64) 25 27 M) ⟨Nat.le_of_ble_eq_true rfl, Nat.le_of_ble_eq_true rfl⟩ rfl rfl (Nat.le_of_ble_eq_true rfl) (fun r15 => .int r15 :: []) (fun _ => M) (fun _ => ⟨rfl, rfl⟩) rfl (fun r15 _ => ?_)
      refine r_if_eq (tgt := 63) (pc' := 59) hx (hd 28) (by decide) (fun _ => ?_) rfl (fun _ => ?_)
      · skip
        refine r_sub [] rfl ?_
        exact hj12
      · skip
        refine r_iconst (pc' := 60) (v := 1) hx (hd 29) (by decide) rfl ?_
        refine r_goto (tgt := 64) hx (hd 30) (by decide) ?_
        refine r_sub [] rfl ?_
        exact hj9 1
  refine r_if_lt (tgt := 36) (pc' := 11) hx (hd 6) (by decide) (fun _ => ?_) rfl (fun _ => ?_)
  · skip
    exact hj6
  · skip
    refine r_aload_n (pc' := 12) hx (hd 7) rfl 0 rfl rfl ?_
    refine r_get (pc' := 15) (v := .ref (t + 13)) hx (hd 8) fl_12_51 ht rfl (by decide) rfl ?_
    have h16 := hL.1 _ _ _ ht 27 13 20 400 rfl
    refine r_iload_n (pc' := 16) hx (hd 9) rfl 1 rfl rfl ?_
    refine r_gd (fun h17 => ?_)
    refine r_iald (pc' := 17) (k := ix v2) hx (hd 10) h16 h17 rfl rfl ?_
    refine r_i2l (pc' := 18) hx (hd 11) rfl ?_
    refine r_ldc2 (pc' := 21) hx (hd 12) kc_12_320 rfl ?_
    refine r_ldc2 (pc' := 24) hx (hd 13) kc_12_322 rfl ?_
    refine r_callS (pc' := 27) (As := [.long (mI M (t + 13) (ix v2)).toInt64, .long 20, .long 24]) (rest := []) hx (hd 14) md_X12_in mst_X12_in ml_12_208 (cX12_in (xl x) w hL ((mI M (t + 13) (ix v2)).toInt64) 20 24 M) ⟨Nat.le_of_ble_eq_true rfl, Nat.le_of_ble_eq_true rfl⟩ rfl rfl (Nat.le_of_ble_eq_true rfl) (fun r18 => .int r18 :: []) (fun _ => M) (fun _ => ⟨rfl, rfl⟩) rfl (fun r18 _ => ?_)
    refine r_if_eq (tgt := 36) (pc' := 30) hx (hd 15) (by decide) (fun _ => ?_) rfl (fun _ => ?_)
    · skip
      exact hj6
    · skip
      refine r_iinc (pc' := 33) (v := (-1)) hx (hd 16) 1 rfl (by decide) (by decide) (fun v19 => [(1, .int v19), (0, .ref t)]) (fun _ => rfl) rfl (fun v19 => ?_)
      refine r_goto (tgt := 7) hx (hd 17) (by decide) ?_
      refine r_sub [1, 0] rfl ?_
      exact ih4 v19
abbrev yX12_behindSum : MethodName := ({ cls := "CribbageRoomModel", name := "behindSum", desc := "(Z)I" } : Jvm.MethodName)
def tbX12_behindSum : List (Nat × Instr × Nat) := [(0, .aload_n 0, 1), (1, .bipush 43, 2), (3, .invokevirtual 341, 3), (6, .ifCond .eq 8, 3), (9, .bipush 20, 2), (11, .goto 60, 3), (14, .aload_n 0, 1), (15, .bipush 45, 2), (17, .invokevirtual 341, 3), (20, .ifCond .eq 8, 3), (23, .bipush 21, 2), (25, .goto 46, 3), (28, .aload_n 0, 1), (29, .bipush 42, 2), (31, .invokevirtual 341, 3), (34, .ifCond .eq 8, 3), (37, .bipush 22, 2), (39, .goto 32, 3), (42, .aload_n 0, 1), (43, .bipush 47, 2), (45, .invokevirtual 341, 3), (48, .ifCond .eq 8, 3), (51, .bipush 23, 2), (53, .goto 18, 3), (56, .aload_n 0, 1), (57, .bipush 37, 2), (59, .invokevirtual 341, 3), (62, .ifCond .eq 8, 3), (65, .bipush 24, 2), (67, .goto 4, 3), (70, .iconst (-1), 1), (71, .istore_n 2, 1), (72, .iload_n 2, 1), (73, .iconst (-1), 1), (74, .if_icmp .eq 23, 3), (77, .aload_n 0, 1), (78, .iload_n 2, 1), (79, .invokestatic 313, 3), (82, .invokevirtual 374, 3), (85, .aload_n 0, 1), (86, .iload_n 2, 1), (87, .iconst 0, 1), (88, .invokevirtual 335, 3), (91, .aload_n 0, 1), (92, .invokevirtual 274, 3), (95, .iconst 1, 1), (96, .ireturn, 1), (97, .aload_n 0, 1), (98, .invokevirtual 377, 3), (101, .istore_n 3, 1), (102, .iload_n 3, 1), (103, .bipush 32, 2), (105, .if_icmp .ne 47, 3), (108, .aload_n 0, 1), (109, .aload_n 0, 1), (110, .bipush 93, 2), (112, .invokevirtual 341, 3), (115, .invokevirtual 303, 3), (118, .aload_n 0, 1), (119, .getfield 270, 3), (122, .ifCond .ne 28, 3), (125, .aload_n 0, 1), (126, .iconst 5, 1), (127, .invokevirtual 374, 3), (130, .aload_n 0, 1), (131, .dup, 1), (132, .getfield 310, 3), (135, .iconst 1, 1), (136, .isub, 1), (137, .putfield 310, 3), (140, .aload_n 0, 1), (141, .dup, 1), (142, .getfield 332, 3), (145, .iconst 1, 1), (146, .isub, 1), (147, .putfield 332, 3), (150, .iconst 3, 1), (151, .ireturn, 1), (152, .iload_n 3, 1), (153, .iconst (-1), 1), (154, .if_icmp .ne 9, 3), (157, .iload_n 1, 1), (158, .ifCond .ne 5, 3), (161, .iconst 4, 1), (162, .ireturn, 1), (163, .aload_n 0, 1), (164, .invokevirtual 380, 3), (167, .ifCond .eq 5, 3), (170, .iconst 2, 1), (171, .ireturn, 1), (172, .aload_n 0, 1), (173, .bipush 60, 2), (175, .invokevirtual 341, 3), (178, .ifCond .eq 8, 3), (181, .bipush 25, 2), (183, .goto 19, 3), (186, .aload_n 0, 1), (187, .bipush 62, 2), (189, .invokevirtual 341, 3), (192, .ifCond .eq 8, 3), (195, .bipush 26, 2), (197, .goto 5, 3), (200, .bipush 27, 2), (202, .istore_n 2, 1), (203, .aload_n 0, 1), (204, .iload_n 2, 1), (205, .bipush 27, 2), (207, .if_icmp .ne 12, 3), (210, .aload_n 0, 1), (211, .bipush 61, 2), (213, .invokevirtual 341, 3), (216, .ifCond .eq 7, 3), (219, .iconst 1, 1), (220, .goto 4, 3), (223, .iconst 0, 1), (224, .invokevirtual 303, 3), (227, .aload_n 0, 1), (228, .getfield 270, 3), (231, .ifCond .ne 14, 3), (234, .aload_n 0, 1), (235, .iconst 5, 1), (236, .invokevirtual 374, 3), (239, .aload_n 0, 1), (240, .iload_n 2, 1), (241, .iconst 0, 1), (242, .invokevirtual 335, 3), (245, .iconst 1, 1), (246, .ireturn, 1)]
theorem dX12_behindSum : ∀ q ∈ tbX12_behindSum, decode prog_14_method_52_code q.1 = .ok q.2 := by decide +kernel
set_option maxRecDepth 20000 in
theorem cX12_behindSum (l : Launch) (w : WX) (hL : Lay w) (t : Nat) (ht : Wat w t 12 0) (p1 : Int32) (M : Mem) : Ct l w yX12_behindSum prog_14_method_52_code 4 (Option.some FieldType.int) 3 61 evIM emM [.ref t, .int p1] M (FX12_behindSum t p1 M) := by
  refine ct_of (by decide) (Nat.le_of_ble_eq_true rfl) (fun x hl hx hb hz => ?_)
  subst hl
  have hd : ∀ i, DAt (xc x).code (tbX12_behindSum[i]?) := fun i => by rw [hb]; exact dat_of dX12_behindSum i
  show C x w (Qn x w evIM emM) 4 0 [(0, .ref t), (1, .int p1)] [] M (FX12_behindSum t p1 M)
  unfold FX12_behindSum
  refine r_aload_n (pc' := 1) hx (hd 0) rfl 0 rfl rfl ?_
  refine r_bipush (pc' := 3) (v := 43) hx (hd 1) (by decide) rfl ?_
  refine r_callV (pc' := 6) (As := [.int 43]) (rest := []) hx (hd 2) md_X12_isSign mi_X12_isSign ms_X12_isSign ml_12_341 (cX12_isSign (xl x) w hL t ht 43 M) ht rfl (by decide) ⟨Nat.le_of_ble_eq_true rfl, Nat.le_of_ble_eq_true rfl⟩ rfl rfl (Nat.le_of_ble_eq_true rfl) (fun r1 => .int r1 :: []) (fun _ => M) (fun _ => ⟨rfl, rfl⟩) rfl (fun r1 _ => ?_)
  refine r_jn1 71 (fun v2 => [(0, .ref t), (1, .int p1)]) (fun v2 => [.int v2]) (fun v2 => M) (fun v2 => ?_) (fun j3 hj4 => ?_)
  · skip
    refine r_istore_n (pc' := 72) (L' := [(2, .int v2), (0, .ref t), (1, .int p1)]) hx (hd 31) rfl (by decide) rfl rfl ?_
    refine r_iload_n (pc' := 73) hx (hd 32) rfl 0 rfl rfl ?_
    refine r_iconst (pc' := 74) (v := (-1)) hx (hd 33) (by decide) rfl ?_
    refine r_icmp_eq (tgt := 97) (pc' := 77) hx (hd 34) (by decide) (fun _ => ?_) rfl (fun _ => ?_)
    · skip
      refine r_aload_n (pc' := 98) hx (hd 47) rfl 1 rfl rfl ?_
      refine r_callV (pc' := 101) (As := []) (rest := []) hx (hd 48) md_X12_inner mi_X12_inner ms_X12_inner ml_12_377 (cX12_inner (xl x) w hL t ht M) ht rfl (by decide) ⟨Nat.le_of_ble_eq_true rfl, Nat.le_of_ble_eq_true rfl⟩ rfl rfl (Nat.le_of_ble_eq_true rfl) (fun r5 => .int r5 :: []) (fun _ => M) (fun _ => ⟨rfl, rfl⟩) rfl (fun r5 _ => ?_)
      refine r_istore_n (pc' := 102) (L' := [(3, .int r5), (2, .int v2), (0, .ref t), (1, .int p1)]) hx (hd 49) rfl (by decide) rfl rfl ?_
      refine r_iload_n (pc' := 103) hx (hd 50) rfl 0 rfl rfl ?_
      refine r_bipush (pc' := 105) (v := 32) hx (hd 51) (by decide) rfl ?_
      refine r_icmp_ne (tgt := 152) (pc' := 108) hx (hd 52) (by decide) (fun _ => ?_) rfl (fun _ => ?_)
      · skip
        refine r_iload_n (pc' := 153) hx (hd 78) rfl 0 rfl rfl ?_
        refine r_iconst (pc' := 154) (v := (-1)) hx (hd 79) (by decide) rfl ?_
        refine r_jn0 163 ([(0, .ref t)]) ([]) (M) (?_) (fun j6 hj7 => ?_)
        · skip
          refine r_aload_n (pc' := 164) hx (hd 85) rfl 0 rfl rfl ?_
          refine r_callV (pc' := 167) (As := []) (rest := []) hx (hd 86) md_X12_isCompared mi_X12_isCompared ms_X12_isCompared ml_12_380 (cX12_isCompared (xl x) w hL t ht M) ht rfl (by decide) ⟨Nat.le_of_ble_eq_true rfl, Nat.le_of_ble_eq_true rfl⟩ rfl rfl (Nat.le_of_ble_eq_true rfl) (fun r8 => .int r8 :: []) (fun _ => M) (fun _ => ⟨rfl, rfl⟩) rfl (fun r8 _ => ?_)
          refine r_if_eq (tgt := 172) (pc' := 170) hx (hd 87) (by decide) (fun _ => ?_) rfl (fun _ => ?_)
          · skip
            refine r_aload_n (pc' := 173) hx (hd 90) rfl 0 rfl rfl ?_
            refine r_bipush (pc' := 175) (v := 60) hx (hd 91) (by decide) rfl ?_
            refine r_callV (pc' := 178) (As := [.int 60]) (rest := []) hx (hd 92) md_X12_isSign mi_X12_isSign ms_X12_isSign ml_12_341 (cX12_isSign (xl x) w hL t ht 60 M) ht rfl (by decide) ⟨Nat.le_of_ble_eq_true rfl, Nat.le_of_ble_eq_true rfl⟩ rfl rfl (Nat.le_of_ble_eq_true rfl) (fun r9 => .int r9 :: []) (fun _ => M) (fun _ => ⟨rfl, rfl⟩) rfl (fun r9 _ => ?_)
            refine r_jn1 202 (fun v10 => [(0, .ref t)]) (fun v10 => [.int v10]) (fun v10 => M) (fun v10 => ?_) (fun j11 hj12 => ?_)
            · skip
              refine r_istore_n (pc' := 203) (L' := [(2, .int v10), (0, .ref t)]) hx (hd 103) rfl (by decide) rfl rfl ?_
              refine r_aload_n (pc' := 204) hx (hd 104) rfl 1 rfl rfl ?_
              refine r_iload_n (pc' := 205) hx (hd 105) rfl 0 rfl rfl ?_
              refine r_bipush (pc' := 207) (v := 27) hx (hd 106) (by decide) rfl ?_
              refine r_jn1 224 (fun v13 => [(0, .ref t), (2, .int v10)]) (fun v13 => [.int v13, .ref t]) (fun v13 => M) (fun v13 => ?_) (fun j14 hj15 => ?_)
              · skip
                refine r_callVU (pc' := 227) (As := [.int v13]) (rest := []) hx (hd 115) md_X12_must mi_X12_must ms_X12_must ml_12_303 (cX12_must (xl x) w hL t ht v13 M) ht rfl (by decide) ⟨Nat.le_of_ble_eq_true rfl, Nat.le_of_ble_eq_true rfl⟩ rfl rfl (Nat.le_of_ble_eq_true rfl) rfl (fun M16 => ?_)
                refine r_aload_n (pc' := 228) hx (hd 116) rfl 0 rfl rfl ?_
                refine r_get (pc' := 231) (v := .int (mI M16 t 19)) hx (hd 117) fl_12_270 ht rfl (by decide) rfl ?_
                refine r_jn1 245 (fun M17 => []) (fun M17 => []) (fun M17 => M17) (fun M17 => ?_) (fun j18 hj19 => ?_)
                · skip
                  refine r_iconst (pc' := 246) (v := 1) hx (hd 126) (by decide) rfl ?_
                  exact r_iret hx (hd 127) rfl rfl hz
                refine r_if_ne (tgt := 245) (pc' := 234) hx (hd 118) (by decide) (fun _ => ?_) rfl (fun _ => ?_)
                · skip
                  refine r_sub [] rfl ?_
                  exact hj19 M16
                · skip
                  refine r_aload_n (pc' := 235) hx (hd 119) rfl 0 rfl rfl ?_
                  refine r_iconst (pc' := 236) (v := 5) hx (hd 120) (by decide) rfl ?_
                  refine r_callVU (pc' := 239) (As := [.int 5]) (rest := []) hx (hd 121) md_X12_settle mi_X12_settle ms_X12_settle ml_12_374 (cX12_settle (xl x) w hL t ht 5 M16) ht rfl (by decide) ⟨Nat.le_of_ble_eq_true rfl, Nat.le_of_ble_eq_true rfl⟩ rfl rfl (Nat.le_of_ble_eq_true rfl) rfl (fun M20 => ?_)
                  refine r_aload_n (pc' := 240) hx (hd 122) rfl 0 rfl rfl ?_
                  refine r_iload_n (pc' := 241) hx (hd 123) rfl 1 rfl rfl ?_
                  refine r_iconst (pc' := 242) (v := 0) hx (hd 124) (by decide) rfl ?_
                  refine r_callVU (pc' := 245) (As := [.int v10, .int 0]) (rest := []) hx (hd 125) md_X12_push mi_X12_push ms_X12_push ml_12_335 (cX12_push (xl x) w hL t ht v10 0 M20) ht rfl (by decide) ⟨Nat.le_of_ble_eq_true rfl, Nat.le_of_ble_eq_true rfl⟩ rfl rfl (Nat.le_of_ble_eq_true rfl) rfl (fun M21 => ?_)
                  refine r_sub [] rfl ?_
                  exact hj19 M21
              refine r_jn0 219 ([(0, .ref t), (2, .int v10)]) ([.ref t]) (M) (?_) (fun j22 hj23 => ?_)
              · skip
                refine r_iconst (pc' := 220) (v := 1) hx (hd 112) (by decide) rfl ?_
                refine r_goto (tgt := 224) hx (hd 113) (by decide) ?_
                exact hj15 1
              refine r_icmp_ne (tgt := 219) (pc' := 210) hx (hd 107) (by decide) (fun _ => ?_) rfl (fun _ => ?_)
              · skip
                refine r_sub [1, 0] rfl ?_
                exact hj23
              · skip
                refine r_aload_n (pc' := 211) hx (hd 108) rfl 1 rfl rfl ?_
                refine r_bipush (pc' := 213) (v := 61) hx (hd 109) (by decide) rfl ?_
                refine r_callV (pc' := 216) (As := [.int 61]) (rest := [.ref t]) hx (hd 110) md_X12_isSign mi_X12_isSign ms_X12_isSign ml_12_341 (cX12_isSign (xl x) w hL t ht 61 M) ht rfl (by decide) ⟨Nat.le_of_ble_eq_true rfl, Nat.le_of_ble_eq_true rfl⟩ rfl rfl (Nat.le_of_ble_eq_true rfl) (fun r24 => .int r24 :: [.ref t]) (fun _ => M) (fun _ => ⟨rfl, rfl⟩) rfl (fun r24 _ => ?_)
                refine r_if_eq (tgt := 223) (pc' := 219) hx (hd 111) (by decide) (fun _ => ?_) rfl (fun _ => ?_)
                · skip
                  refine r_iconst (pc' := 224) (v := 0) hx (hd 114) (by decide) rfl ?_
                  refine r_sub [1, 0] rfl ?_
                  exact hj15 0
                · skip
                  refine r_sub [1, 0] rfl ?_
                  exact hj23
            refine r_if_eq (tgt := 186) (pc' := 181) hx (hd 93) (by decide) (fun _ => ?_) rfl (fun _ => ?_)
            · skip
              refine r_aload_n (pc' := 187) hx (hd 96) rfl 0 rfl rfl ?_
              refine r_bipush (pc' := 189) (v := 62) hx (hd 97) (by decide) rfl ?_
              refine r_callV (pc' := 192) (As := [.int 62]) (rest := []) hx (hd 98) md_X12_isSign mi_X12_isSign ms_X12_isSign ml_12_341 (cX12_isSign (xl x) w hL t ht 62 M) ht rfl (by decide) ⟨Nat.le_of_ble_eq_true rfl, Nat.le_of_ble_eq_true rfl⟩ rfl rfl (Nat.le_of_ble_eq_true rfl) (fun r25 => .int r25 :: []) (fun _ => M) (fun _ => ⟨rfl, rfl⟩) rfl (fun r25 _ => ?_)
              refine r_if_eq (tgt := 200) (pc' := 195) hx (hd 99) (by decide) (fun _ => ?_) rfl (fun _ => ?_)
              · skip
                refine r_bipush (pc' := 202) (v := 27) hx (hd 102) (by decide) rfl ?_
                exact hj12 27
              · skip
                refine r_bipush (pc' := 197) (v := 26) hx (hd 100) (by decide) rfl ?_
                refine r_goto (tgt := 202) hx (hd 101) (by decide) ?_
                exact hj12 26
            · skip
              refine r_bipush (pc' := 183) (v := 25) hx (hd 94) (by decide) rfl ?_
              refine r_goto (tgt := 202) hx (hd 95) (by decide) ?_
              exact hj12 25
          · skip
            refine r_iconst (pc' := 171) (v := 2) hx (hd 88) (by decide) rfl ?_
            exact r_iret hx (hd 89) rfl rfl hz
        refine r_icmp_ne (tgt := 163) (pc' := 157) hx (hd 80) (by decide) (fun _ => ?_) rfl (fun _ => ?_)
        · skip
          refine r_sub [2] rfl ?_
          exact hj7
        · skip
          refine r_iload_n (pc' := 158) hx (hd 81) rfl 3 rfl rfl ?_
          refine r_if_ne (tgt := 163) (pc' := 161) hx (hd 82) (by decide) (fun _ => ?_) rfl (fun _ => ?_)
          · skip
            refine r_sub [2] rfl ?_
            exact hj7
          · skip
            refine r_iconst (pc' := 162) (v := 4) hx (hd 83) (by decide) rfl ?_
            exact r_iret hx (hd 84) rfl rfl hz
      · skip
        refine r_aload_n (pc' := 109) hx (hd 53) rfl 2 rfl rfl ?_
        refine r_aload_n (pc' := 110) hx (hd 54) rfl 2 rfl rfl ?_
        refine r_bipush (pc' := 112) (v := 93) hx (hd 55) (by decide) rfl ?_
        refine r_callV (pc' := 115) (As := [.int 93]) (rest := [.ref t]) hx (hd 56) md_X12_isSign mi_X12_isSign ms_X12_isSign ml_12_341 (cX12_isSign (xl x) w hL t ht 93 M) ht rfl (by decide) ⟨Nat.le_of_ble_eq_true rfl, Nat.le_of_ble_eq_true rfl⟩ rfl rfl (Nat.le_of_ble_eq_true rfl) (fun r26 => .int r26 :: [.ref t]) (fun _ => M) (fun _ => ⟨rfl, rfl⟩) rfl (fun r26 _ => ?_)
        refine r_callVU (pc' := 118) (As := [.int r26]) (rest := []) hx (hd 57) md_X12_must mi_X12_must ms_X12_must ml_12_303 (cX12_must (xl x) w hL t ht r26 M) ht rfl (by decide) ⟨Nat.le_of_ble_eq_true rfl, Nat.le_of_ble_eq_true rfl⟩ rfl rfl (Nat.le_of_ble_eq_true rfl) rfl (fun M27 => ?_)
        refine r_aload_n (pc' := 119) hx (hd 58) rfl 2 rfl rfl ?_
        refine r_get (pc' := 122) (v := .int (mI M27 t 19)) hx (hd 59) fl_12_270 ht rfl (by decide) rfl ?_
        refine r_jn1 150 (fun M28 => []) (fun M28 => []) (fun M28 => M28) (fun M28 => ?_) (fun j29 hj30 => ?_)
        · skip
          refine r_iconst (pc' := 151) (v := 3) hx (hd 76) (by decide) rfl ?_
          exact r_iret hx (hd 77) rfl rfl hz
        refine r_if_ne (tgt := 150) (pc' := 125) hx (hd 60) (by decide) (fun _ => ?_) rfl (fun _ => ?_)
        · skip
          refine r_sub [] rfl ?_
          exact hj30 M27
        · skip
          refine r_aload_n (pc' := 126) hx (hd 61) rfl 2 rfl rfl ?_
          refine r_iconst (pc' := 127) (v := 5) hx (hd 62) (by decide) rfl ?_
          refine r_callVU (pc' := 130) (As := [.int 5]) (rest := []) hx (hd 63) md_X12_settle mi_X12_settle ms_X12_settle ml_12_374 (cX12_settle (xl x) w hL t ht 5 M27) ht rfl (by decide) ⟨Nat.le_of_ble_eq_true rfl, Nat.le_of_ble_eq_true rfl⟩ rfl rfl (Nat.le_of_ble_eq_true rfl) rfl (fun M31 => ?_)
          refine r_aload_n (pc' := 131) hx (hd 64) rfl 2 rfl rfl ?_
          refine r_dup (pc' := 132) hx (hd 65) rfl rfl ?_
          refine r_get (pc' := 135) (v := .int (mI M31 t 29)) hx (hd 66) fl_12_310 ht rfl (by decide) rfl ?_
          refine r_iconst (pc' := 136) (v := 1) hx (hd 67) (by decide) rfl ?_
          refine r_isub (pc' := 137) hx (hd 68) rfl ?_
          refine r_putI (pc' := 140) hx (hd 69) fp_12_310 ht rfl (by decide) rfl (fun M32 => ?_)
          refine r_aload_n (pc' := 141) hx (hd 70) rfl 2 rfl rfl ?_
          refine r_dup (pc' := 142) hx (hd 71) rfl rfl ?_
          refine r_get (pc' := 145) (v := .int (mI M32 t 30)) hx (hd 72) fl_12_332 ht rfl (by decide) rfl ?_
          refine r_iconst (pc' := 146) (v := 1) hx (hd 73) (by decide) rfl ?_
          refine r_isub (pc' := 147) hx (hd 74) rfl ?_
          refine r_putI (pc' := 150) hx (hd 75) fp_12_332 ht rfl (by decide) rfl (fun M33 => ?_)
          refine r_sub [] rfl ?_
          exact hj30 M33
    · skip
      refine r_aload_n (pc' := 78) hx (hd 35) rfl 1 rfl rfl ?_
      refine r_iload_n (pc' := 79) hx (hd 36) rfl 0 rfl rfl ?_
      refine r_callS (pc' := 82) (As := [.int v2]) (rest := [.ref t]) hx (hd 37) md_X12_binds mst_X12_binds ml_12_313 (cX12_binds (xl x) w hL v2 M) ⟨Nat.le_of_ble_eq_true rfl, Nat.le_of_ble_eq_true rfl⟩ rfl rfl (Nat.le_of_ble_eq_true rfl) (fun r34 => .int r34 :: [.ref t]) (fun _ => M) (fun _ => ⟨rfl, rfl⟩) rfl (fun r34 _ => ?_)
      refine r_callVU (pc' := 85) (As := [.int r34]) (rest := []) hx (hd 38) md_X12_settle mi_X12_settle ms_X12_settle ml_12_374 (cX12_settle (xl x) w hL t ht r34 M) ht rfl (by decide) ⟨Nat.le_of_ble_eq_true rfl, Nat.le_of_ble_eq_true rfl⟩ rfl rfl (Nat.le_of_ble_eq_true rfl) rfl (fun M35 => ?_)
      refine r_aload_n (pc' := 86) hx (hd 39) rfl 1 rfl rfl ?_
      refine r_iload_n (pc' := 87) hx (hd 40) rfl 0 rfl rfl ?_
      refine r_iconst (pc' := 88) (v := 0) hx (hd 41) (by decide) rfl ?_
      refine r_callVU (pc' := 91) (As := [.int v2, .int 0]) (rest := []) hx (hd 42) md_X12_push mi_X12_push ms_X12_push ml_12_335 (cX12_push (xl x) w hL t ht v2 0 M35) ht rfl (by decide) ⟨Nat.le_of_ble_eq_true rfl, Nat.le_of_ble_eq_true rfl⟩ rfl rfl (Nat.le_of_ble_eq_true rfl) rfl (fun M36 => ?_)
      refine r_aload_n (pc' := 92) hx (hd 43) rfl 1 rfl rfl ?_
      refine r_callVU (pc' := 95) (As := []) (rest := []) hx (hd 44) md_X12_next mi_X12_next ms_X12_next ml_12_274 (cX12_next (xl x) w hL t ht M36) ht rfl (by decide) ⟨Nat.le_of_ble_eq_true rfl, Nat.le_of_ble_eq_true rfl⟩ rfl rfl (Nat.le_of_ble_eq_true rfl) rfl (fun M37 => ?_)
      refine r_iconst (pc' := 96) (v := 1) hx (hd 45) (by decide) rfl ?_
      exact r_iret hx (hd 46) rfl rfl hz
  refine r_if_eq (tgt := 14) (pc' := 9) hx (hd 3) (by decide) (fun _ => ?_) rfl (fun _ => ?_)
  · skip
    refine r_aload_n (pc' := 15) hx (hd 6) rfl 0 rfl rfl ?_
    refine r_bipush (pc' := 17) (v := 45) hx (hd 7) (by decide) rfl ?_
    refine r_callV (pc' := 20) (As := [.int 45]) (rest := []) hx (hd 8) md_X12_isSign mi_X12_isSign ms_X12_isSign ml_12_341 (cX12_isSign (xl x) w hL t ht 45 M) ht rfl (by decide) ⟨Nat.le_of_ble_eq_true rfl, Nat.le_of_ble_eq_true rfl⟩ rfl rfl (Nat.le_of_ble_eq_true rfl) (fun r38 => .int r38 :: []) (fun _ => M) (fun _ => ⟨rfl, rfl⟩) rfl (fun r38 _ => ?_)
    refine r_if_eq (tgt := 28) (pc' := 23) hx (hd 9) (by decide) (fun _ => ?_) rfl (fun _ => ?_)
    · skip
      refine r_aload_n (pc' := 29) hx (hd 12) rfl 0 rfl rfl ?_
      refine r_bipush (pc' := 31) (v := 42) hx (hd 13) (by decide) rfl ?_
      refine r_callV (pc' := 34) (As := [.int 42]) (rest := []) hx (hd 14) md_X12_isSign mi_X12_isSign ms_X12_isSign ml_12_341 (cX12_isSign (xl x) w hL t ht 42 M) ht rfl (by decide) ⟨Nat.le_of_ble_eq_true rfl, Nat.le_of_ble_eq_true rfl⟩ rfl rfl (Nat.le_of_ble_eq_true rfl) (fun r39 => .int r39 :: []) (fun _ => M) (fun _ => ⟨rfl, rfl⟩) rfl (fun r39 _ => ?_)
      refine r_if_eq (tgt := 42) (pc' := 37) hx (hd 15) (by decide) (fun _ => ?_) rfl (fun _ => ?_)
      · skip
        refine r_aload_n (pc' := 43) hx (hd 18) rfl 0 rfl rfl ?_
        refine r_bipush (pc' := 45) (v := 47) hx (hd 19) (by decide) rfl ?_
        refine r_callV (pc' := 48) (As := [.int 47]) (rest := []) hx (hd 20) md_X12_isSign mi_X12_isSign ms_X12_isSign ml_12_341 (cX12_isSign (xl x) w hL t ht 47 M) ht rfl (by decide) ⟨Nat.le_of_ble_eq_true rfl, Nat.le_of_ble_eq_true rfl⟩ rfl rfl (Nat.le_of_ble_eq_true rfl) (fun r40 => .int r40 :: []) (fun _ => M) (fun _ => ⟨rfl, rfl⟩) rfl (fun r40 _ => ?_)
        refine r_if_eq (tgt := 56) (pc' := 51) hx (hd 21) (by decide) (fun _ => ?_) rfl (fun _ => ?_)
        · skip
          refine r_aload_n (pc' := 57) hx (hd 24) rfl 0 rfl rfl ?_
          refine r_bipush (pc' := 59) (v := 37) hx (hd 25) (by decide) rfl ?_
          refine r_callV (pc' := 62) (As := [.int 37]) (rest := []) hx (hd 26) md_X12_isSign mi_X12_isSign ms_X12_isSign ml_12_341 (cX12_isSign (xl x) w hL t ht 37 M) ht rfl (by decide) ⟨Nat.le_of_ble_eq_true rfl, Nat.le_of_ble_eq_true rfl⟩ rfl rfl (Nat.le_of_ble_eq_true rfl) (fun r41 => .int r41 :: []) (fun _ => M) (fun _ => ⟨rfl, rfl⟩) rfl (fun r41 _ => ?_)
          refine r_if_eq (tgt := 70) (pc' := 65) hx (hd 27) (by decide) (fun _ => ?_) rfl (fun _ => ?_)
          · skip
            refine r_iconst (pc' := 71) (v := (-1)) hx (hd 30) (by decide) rfl ?_
            exact hj4 (-1)
          · skip
            refine r_bipush (pc' := 67) (v := 24) hx (hd 28) (by decide) rfl ?_
            refine r_goto (tgt := 71) hx (hd 29) (by decide) ?_
            exact hj4 24
        · skip
          refine r_bipush (pc' := 53) (v := 23) hx (hd 22) (by decide) rfl ?_
          refine r_goto (tgt := 71) hx (hd 23) (by decide) ?_
          exact hj4 23
      · skip
        refine r_bipush (pc' := 39) (v := 22) hx (hd 16) (by decide) rfl ?_
        refine r_goto (tgt := 71) hx (hd 17) (by decide) ?_
        exact hj4 22
    · skip
      refine r_bipush (pc' := 25) (v := 21) hx (hd 10) (by decide) rfl ?_
      refine r_goto (tgt := 71) hx (hd 11) (by decide) ?_
      exact hj4 21
  · skip
    refine r_bipush (pc' := 11) (v := 20) hx (hd 4) (by decide) rfl ?_
    refine r_goto (tgt := 71) hx (hd 5) (by decide) ?_
    exact hj4 20
abbrev yX12_behindTest : MethodName := ({ cls := "CribbageRoomModel", name := "behindTest", desc := "()I" } : Jvm.MethodName)
def tbX12_behindTest : List (Nat × Instr × Nat) := [(0, .aload_n 0, 1), (1, .ldc2_w 384, 3), (4, .invokevirtual 328, 3), (7, .istore_n 1, 1), (8, .iload_n 1, 1), (9, .ifCond .ne 13, 3), (12, .aload_n 0, 1), (13, .ldc2_w 386, 3), (16, .invokevirtual 328, 3), (19, .ifCond .eq 57, 3), (22, .aload_n 0, 1), (23, .iload_n 1, 1), (24, .ifCond .eq 7, 3), (27, .iconst 2, 1), (28, .goto 4, 3), (31, .iconst 1, 1), (32, .invokevirtual 374, 3), (35, .aload_n 0, 1), (36, .iload_n 1, 1), (37, .ifCond .eq 8, 3), (40, .bipush 29, 2), (42, .goto 5, 3), (45, .bipush 30, 2), (47, .aload_n 0, 1), (48, .getfield 307, 3), (51, .invokevirtual 335, 3), (54, .aload_n 0, 1), (55, .iload_n 1, 1), (56, .ifCond .eq 8, 3), (59, .bipush 29, 2), (61, .goto 5, 3), (64, .bipush 30, 2), (66, .iconst 0, 1), (67, .invokevirtual 316, 3), (70, .aload_n 0, 1), (71, .invokevirtual 274, 3), (74, .iconst 0, 1), (75, .ireturn, 1), (76, .aload_n 0, 1), (77, .invokevirtual 377, 3), (80, .iconst (-1), 1), (81, .if_icmp .ne 5, 3), (84, .iconst 4, 1), (85, .ireturn, 1), (86, .aload_n 0, 1), (87, .aload_n 0, 1), (88, .bipush 41, 2), (90, .invokevirtual 341, 3), (93, .invokevirtual 303, 3), (96, .aload_n 0, 1), (97, .getfield 270, 3), (100, .ifCond .ne 28, 3), (103, .aload_n 0, 1), (104, .iconst 1, 1), (105, .invokevirtual 374, 3), (108, .aload_n 0, 1), (109, .dup, 1), (110, .getfield 310, 3), (113, .iconst 1, 1), (114, .isub, 1), (115, .putfield 310, 3), (118, .aload_n 0, 1), (119, .dup, 1), (120, .getfield 332, 3), (123, .iconst 1, 1), (124, .isub, 1), (125, .putfield 332, 3), (128, .iconst 2, 1), (129, .ireturn, 1)]
theorem dX12_behindTest : ∀ q ∈ tbX12_behindTest, decode prog_14_method_53_code q.1 = .ok q.2 := by decide +kernel
set_option maxRecDepth 20000 in
theorem cX12_behindTest (l : Launch) (w : WX) (hL : Lay w) (t : Nat) (ht : Wat w t 12 0) (M : Mem) : Ct l w yX12_behindTest prog_14_method_53_code 2 (Option.some FieldType.int) 3 61 evIM emM [.ref t] M (FX12_behindTest t M) := by
  refine ct_of (by decide) (Nat.le_of_ble_eq_true rfl) (fun x hl hx hb hz => ?_)
  subst hl
  have hd : ∀ i, DAt (xc x).code (tbX12_behindTest[i]?) := fun i => by rw [hb]; exact dat_of dX12_behindTest i
  show C x w (Qn x w evIM emM) 2 0 [(0, .ref t)] [] M (FX12_behindTest t M)
  unfold FX12_behindTest
  refine r_aload_n (pc' := 1) hx (hd 0) rfl 0 rfl rfl ?_
  refine r_ldc2 (pc' := 4) hx (hd 1) kc_12_384 rfl ?_
  refine r_callV (pc' := 7) (As := [.long 1476]) (rest := []) hx (hd 2) md_X12_isWord mi_X12_isWord ms_X12_isWord ml_12_328 (cX12_isWord (xl x) w hL t ht 1476 M) ht rfl (by decide) ⟨Nat.le_of_ble_eq_true rfl, Nat.le_of_ble_eq_true rfl⟩ rfl rfl (Nat.le_of_ble_eq_true rfl) (fun r1 => .int r1 :: []) (fun _ => M) (fun _ => ⟨rfl, rfl⟩) rfl (fun r1 _ => ?_)
  refine r_istore_n (pc' := 8) (L' := [(1, .int r1), (0, .ref t)]) hx (hd 3) rfl (by decide) rfl rfl ?_
  refine r_iload_n (pc' := 9) hx (hd 4) rfl 0 rfl rfl ?_
  refine r_jn0 22 ([(0, .ref t), (1, .int r1)]) ([]) (M) (?_) (fun j2 hj3 => ?_)
  · skip
    refine r_aload_n (pc' := 23) hx (hd 10) rfl 0 rfl rfl ?_
    refine r_iload_n (pc' := 24) hx (hd 11) rfl 1 rfl rfl ?_
    refine r_jn1 32 (fun v4 => [(0, .ref t), (1, .int r1)]) (fun v4 => [.int v4, .ref t]) (fun v4 => M) (fun v4 => ?_) (fun j5 hj6 => ?_)
    · skip
      refine r_callVU (pc' := 35) (As := [.int v4]) (rest := []) hx (hd 16) md_X12_settle mi_X12_settle ms_X12_settle ml_12_374 (cX12_settle (xl x) w hL t ht v4 M) ht rfl (by decide) ⟨Nat.le_of_ble_eq_true rfl, Nat.le_of_ble_eq_true rfl⟩ rfl rfl (Nat.le_of_ble_eq_true rfl) rfl (fun M7 => ?_)
      refine r_aload_n (pc' := 36) hx (hd 17) rfl 0 rfl rfl ?_
      refine r_iload_n (pc' := 37) hx (hd 18) rfl 1 rfl rfl ?_
      refine r_jn1 47 (fun v8 => [(0, .ref t), (1, .int r1)]) (fun v8 => [.int v8, .ref t]) (fun v8 => M7) (fun v8 => ?_) (fun j9 hj10 => ?_)
      · skip
        refine r_aload_n (pc' := 48) hx (hd 23) rfl 0 rfl rfl ?_
        refine r_get (pc' := 51) (v := .int (mI M7 t 23)) hx (hd 24) fl_12_307 ht rfl (by decide) rfl ?_
        refine r_callVU (pc' := 54) (As := [.int v8, .int (mI M7 t 23)]) (rest := []) hx (hd 25) md_X12_push mi_X12_push ms_X12_push ml_12_335 (cX12_push (xl x) w hL t ht v8 (mI M7 t 23) M7) ht rfl (by decide) ⟨Nat.le_of_ble_eq_true rfl, Nat.le_of_ble_eq_true rfl⟩ rfl rfl (Nat.le_of_ble_eq_true rfl) rfl (fun M11 => ?_)
        refine r_aload_n (pc' := 55) hx (hd 26) rfl 0 rfl rfl ?_
        refine r_iload_n (pc' := 56) hx (hd 27) rfl 1 rfl rfl ?_
        refine r_jn1 66 (fun v12 => [(0, .ref t)]) (fun v12 => [.int v12, .ref t]) (fun v12 => M11) (fun v12 => ?_) (fun j13 hj14 => ?_)
        · skip
          refine r_iconst (pc' := 67) (v := 0) hx (hd 32) (by decide) rfl ?_
          refine r_callVU (pc' := 70) (As := [.int v12, .int 0]) (rest := []) hx (hd 33) md_X12_emit mi_X12_emit ms_X12_emit ml_12_316 (cX12_emit (xl x) w hL t ht v12 0 M11) ht rfl (by decide) ⟨Nat.le_of_ble_eq_true rfl, Nat.le_of_ble_eq_true rfl⟩ rfl rfl (Nat.le_of_ble_eq_true rfl) rfl (fun M15 => ?_)
          refine r_aload_n (pc' := 71) hx (hd 34) rfl 0 rfl rfl ?_
          refine r_callVU (pc' := 74) (As := []) (rest := []) hx (hd 35) md_X12_next mi_X12_next ms_X12_next ml_12_274 (cX12_next (xl x) w hL t ht M15) ht rfl (by decide) ⟨Nat.le_of_ble_eq_true rfl, Nat.le_of_ble_eq_true rfl⟩ rfl rfl (Nat.le_of_ble_eq_true rfl) rfl (fun M16 => ?_)
          refine r_iconst (pc' := 75) (v := 0) hx (hd 36) (by decide) rfl ?_
          exact r_iret hx (hd 37) rfl rfl hz
        refine r_if_eq (tgt := 64) (pc' := 59) hx (hd 28) (by decide) (fun _ => ?_) rfl (fun _ => ?_)
        · skip
          refine r_bipush (pc' := 66) (v := 30) hx (hd 31) (by decide) rfl ?_
          refine r_sub [0] rfl ?_
          exact hj14 30
        · skip
          refine r_bipush (pc' := 61) (v := 29) hx (hd 29) (by decide) rfl ?_
          refine r_goto (tgt := 66) hx (hd 30) (by decide) ?_
          refine r_sub [0] rfl ?_
          exact hj14 29
      refine r_if_eq (tgt := 45) (pc' := 40) hx (hd 19) (by decide) (fun _ => ?_) rfl (fun _ => ?_)
      · skip
        refine r_bipush (pc' := 47) (v := 30) hx (hd 22) (by decide) rfl ?_
        exact hj10 30
      · skip
        refine r_bipush (pc' := 42) (v := 29) hx (hd 20) (by decide) rfl ?_
        refine r_goto (tgt := 47) hx (hd 21) (by decide) ?_
        exact hj10 29
    refine r_if_eq (tgt := 31) (pc' := 27) hx (hd 12) (by decide) (fun _ => ?_) rfl (fun _ => ?_)
    · skip
      refine r_iconst (pc' := 32) (v := 1) hx (hd 15) (by decide) rfl ?_
      exact hj6 1
    · skip
      refine r_iconst (pc' := 28) (v := 2) hx (hd 13) (by decide) rfl ?_
      refine r_goto (tgt := 32) hx (hd 14) (by decide) ?_
      exact hj6 2
  refine r_if_ne (tgt := 22) (pc' := 12) hx (hd 5) (by decide) (fun _ => ?_) rfl (fun _ => ?_)
  · skip
    refine r_sub [1, 0] rfl ?_
    exact hj3
  · skip
    refine r_aload_n (pc' := 13) hx (hd 6) rfl 1 rfl rfl ?_
    refine r_ldc2 (pc' := 16) hx (hd 7) kc_12_386 rfl ?_
    refine r_callV (pc' := 19) (As := [.long 498]) (rest := []) hx (hd 8) md_X12_isWord mi_X12_isWord ms_X12_isWord ml_12_328 (cX12_isWord (xl x) w hL t ht 498 M) ht rfl (by decide) ⟨Nat.le_of_ble_eq_true rfl, Nat.le_of_ble_eq_true rfl⟩ rfl rfl (Nat.le_of_ble_eq_true rfl) (fun r17 => .int r17 :: []) (fun _ => M) (fun _ => ⟨rfl, rfl⟩) rfl (fun r17 _ => ?_)
    refine r_if_eq (tgt := 76) (pc' := 22) hx (hd 9) (by decide) (fun _ => ?_) rfl (fun _ => ?_)
    · skip
      refine r_aload_n (pc' := 77) hx (hd 38) rfl 1 rfl rfl ?_
      refine r_callV (pc' := 80) (As := []) (rest := []) hx (hd 39) md_X12_inner mi_X12_inner ms_X12_inner ml_12_377 (cX12_inner (xl x) w hL t ht M) ht rfl (by decide) ⟨Nat.le_of_ble_eq_true rfl, Nat.le_of_ble_eq_true rfl⟩ rfl rfl (Nat.le_of_ble_eq_true rfl) (fun r18 => .int r18 :: []) (fun _ => M) (fun _ => ⟨rfl, rfl⟩) rfl (fun r18 _ => ?_)
      refine r_iconst (pc' := 81) (v := (-1)) hx (hd 40) (by decide) rfl ?_
      refine r_icmp_ne (tgt := 86) (pc' := 84) hx (hd 41) (by decide) (fun _ => ?_) rfl (fun _ => ?_)
      · skip
        refine r_aload_n (pc' := 87) hx (hd 44) rfl 1 rfl rfl ?_
        refine r_aload_n (pc' := 88) hx (hd 45) rfl 1 rfl rfl ?_
        refine r_bipush (pc' := 90) (v := 41) hx (hd 46) (by decide) rfl ?_
        refine r_callV (pc' := 93) (As := [.int 41]) (rest := [.ref t]) hx (hd 47) md_X12_isSign mi_X12_isSign ms_X12_isSign ml_12_341 (cX12_isSign (xl x) w hL t ht 41 M) ht rfl (by decide) ⟨Nat.le_of_ble_eq_true rfl, Nat.le_of_ble_eq_true rfl⟩ rfl rfl (Nat.le_of_ble_eq_true rfl) (fun r19 => .int r19 :: [.ref t]) (fun _ => M) (fun _ => ⟨rfl, rfl⟩) rfl (fun r19 _ => ?_)
        refine r_callVU (pc' := 96) (As := [.int r19]) (rest := []) hx (hd 48) md_X12_must mi_X12_must ms_X12_must ml_12_303 (cX12_must (xl x) w hL t ht r19 M) ht rfl (by decide) ⟨Nat.le_of_ble_eq_true rfl, Nat.le_of_ble_eq_true rfl⟩ rfl rfl (Nat.le_of_ble_eq_true rfl) rfl (fun M20 => ?_)
        refine r_aload_n (pc' := 97) hx (hd 49) rfl 1 rfl rfl ?_
        refine r_get (pc' := 100) (v := .int (mI M20 t 19)) hx (hd 50) fl_12_270 ht rfl (by decide) rfl ?_
        refine r_jn1 128 (fun M21 => []) (fun M21 => []) (fun M21 => M21) (fun M21 => ?_) (fun j22 hj23 => ?_)
        · skip
          refine r_iconst (pc' := 129) (v := 2) hx (hd 67) (by decide) rfl ?_
          exact r_iret hx (hd 68) rfl rfl hz
        refine r_if_ne (tgt := 128) (pc' := 103) hx (hd 51) (by decide) (fun _ => ?_) rfl (fun _ => ?_)
        · skip
          refine r_sub [] rfl ?_
          exact hj23 M20
        · skip
          refine r_aload_n (pc' := 104) hx (hd 52) rfl 1 rfl rfl ?_
          refine r_iconst (pc' := 105) (v := 1) hx (hd 53) (by decide) rfl ?_
          refine r_callVU (pc' := 108) (As := [.int 1]) (rest := []) hx (hd 54) md_X12_settle mi_X12_settle ms_X12_settle ml_12_374 (cX12_settle (xl x) w hL t ht 1 M20) ht rfl (by decide) ⟨Nat.le_of_ble_eq_true rfl, Nat.le_of_ble_eq_true rfl⟩ rfl rfl (Nat.le_of_ble_eq_true rfl) rfl (fun M24 => ?_)
          refine r_aload_n (pc' := 109) hx (hd 55) rfl 1 rfl rfl ?_
          refine r_dup (pc' := 110) hx (hd 56) rfl rfl ?_
          refine r_get (pc' := 113) (v := .int (mI M24 t 29)) hx (hd 57) fl_12_310 ht rfl (by decide) rfl ?_
          refine r_iconst (pc' := 114) (v := 1) hx (hd 58) (by decide) rfl ?_
          refine r_isub (pc' := 115) hx (hd 59) rfl ?_
          refine r_putI (pc' := 118) hx (hd 60) fp_12_310 ht rfl (by decide) rfl (fun M25 => ?_)
          refine r_aload_n (pc' := 119) hx (hd 61) rfl 1 rfl rfl ?_
          refine r_dup (pc' := 120) hx (hd 62) rfl rfl ?_
          refine r_get (pc' := 123) (v := .int (mI M25 t 30)) hx (hd 63) fl_12_332 ht rfl (by decide) rfl ?_
          refine r_iconst (pc' := 124) (v := 1) hx (hd 64) (by decide) rfl ?_
          refine r_isub (pc' := 125) hx (hd 65) rfl ?_
          refine r_putI (pc' := 128) hx (hd 66) fp_12_332 ht rfl (by decide) rfl (fun M26 => ?_)
          refine r_sub [] rfl ?_
          exact hj23 M26
      · skip
        refine r_iconst (pc' := 85) (v := 4) hx (hd 42) (by decide) rfl ?_
        exact r_iret hx (hd 43) rfl rfl hz
    · skip
      refine r_sub [1, 0] rfl ?_
      exact hj3
abbrev yX12_readExpression : MethodName := ({ cls := "CribbageRoomModel", name := "readExpression", desc := "(Z)V" } : Jvm.MethodName)
def tbX12_readExpression : List (Nat × Instr × Nat) := [(0, .aload_n 0, 1), (1, .iconst 0, 1), (2, .putfield 310, 3), (5, .aload_n 0, 1), (6, .iconst 0, 1), (7, .putfield 332, 3), (10, .iload_n 1, 1), (11, .ifCond .eq 7, 3), (14, .iconst 0, 1), (15, .goto 4, 3), (18, .iconst 1, 1), (19, .istore_n 2, 1), (20, .aload_n 0, 1), (21, .getfield 270, 3), (24, .ifCond .ne 52, 3), (27, .iload_n 2, 1), (28, .iconst 4, 1), (29, .if_icmp .eq 47, 3), (32, .iload_n 2, 1), (33, .ifCond .ne 10, 3), (36, .aload_n 0, 1), (37, .invokevirtual 388, 3), (40, .goto 32, 3), (43, .iload_n 2, 1), (44, .iconst 1, 1), (45, .if_icmp .ne 10, 3), (48, .aload_n 0, 1), (49, .invokevirtual 371, 3), (52, .goto 20, 3), (55, .iload_n 2, 1), (56, .iconst 3, 1), (57, .if_icmp .ne 11, 3), (60, .aload_n 0, 1), (61, .iload_n 1, 1), (62, .invokevirtual 391, 3), (65, .goto 7, 3), (68, .aload_n 0, 1), (69, .invokevirtual 395, 3), (72, .istore_n 2, 1), (73, .goto (-53), 3), (76, .aload_n 0, 1), (77, .iconst 1, 1), (78, .invokevirtual 374, 3), (81, .return_, 1)]
theorem dX12_readExpression : ∀ q ∈ tbX12_readExpression, decode prog_14_method_54_code q.1 = .ok q.2 := by decide +kernel
set_option maxRecDepth 20000 in
theorem cX12_readExpression (l : Launch) (w : WX) (hL : Lay w) (t : Nat) (ht : Wat w t 12 0) (p1 : Int32) (M : Mem) : Ct l w yX12_readExpression prog_14_method_54_code 3 (Option.none : Option FieldType) 6 129 evU emU [.ref t, .int p1] M (FX12_readExpression t p1 M) := by
  refine ct_of (by decide) (Nat.le_of_ble_eq_true rfl) (fun x hl hx hb hz => ?_)
  subst hl
  have hd : ∀ i, DAt (xc x).code (tbX12_readExpression[i]?) := fun i => by rw [hb]; exact dat_of dX12_readExpression i
  show C x w (Qn x w evU emU) 3 0 [(0, .ref t), (1, .int p1)] [] M (FX12_readExpression t p1 M)
  unfold FX12_readExpression
  refine r_aload_n (pc' := 1) hx (hd 0) rfl 0 rfl rfl ?_
  refine r_iconst (pc' := 2) (v := 0) hx (hd 1) (by decide) rfl ?_
  refine r_putI (pc' := 5) hx (hd 2) fp_12_310 ht rfl (by decide) rfl (fun M1 => ?_)
  refine r_aload_n (pc' := 6) hx (hd 3) rfl 0 rfl rfl ?_
  refine r_iconst (pc' := 7) (v := 0) hx (hd 4) (by decide) rfl ?_
  refine r_putI (pc' := 10) hx (hd 5) fp_12_332 ht rfl (by decide) rfl (fun M2 => ?_)
  refine r_iload_n (pc' := 11) hx (hd 6) rfl 1 rfl rfl ?_
  refine r_jn1 19 (fun v3 => [(0, .ref t), (1, .int p1)]) (fun v3 => [.int v3]) (fun v3 => M2) (fun v3 => ?_) (fun j4 hj5 => ?_)
  · skip
    refine r_istore_n (pc' := 20) (L' := [(2, .int v3), (0, .ref t), (1, .int p1)]) hx (hd 11) rfl (by decide) rfl rfl ?_
    refine r_sub [1, 2, 0] rfl ?_
    refine r_wl2 (fun v6 M7 => [(0, .ref t), (1, .int p1), (2, .int v6)]) (fun v6 M7 => []) (fun v6 M7 => M7) (fun v6 M7 rec8 ih9 => ?_) fuel v3 M2
    refine r_aload_n (pc' := 21) hx (hd 12) rfl 0 rfl rfl ?_
    refine r_get (pc' := 24) (v := .int (mI M7 t 19)) hx (hd 13) fl_12_270 ht rfl (by decide) rfl ?_
    refine r_jn0 76 ([(0, .ref t)]) ([]) (M7) (?_) (fun j10 hj11 => ?_)
    · skip
      refine r_aload_n (pc' := 77) hx (hd 40) rfl 0 rfl rfl ?_
      refine r_iconst (pc' := 78) (v := 1) hx (hd 41) (by decide) rfl ?_
      refine r_callVU (pc' := 81) (As := [.int 1]) (rest := []) hx (hd 42) md_X12_settle mi_X12_settle ms_X12_settle ml_12_374 (cX12_settle (xl x) w hL t ht 1 M7) ht rfl (by decide) ⟨Nat.le_of_ble_eq_true rfl, Nat.le_of_ble_eq_true rfl⟩ rfl rfl (Nat.le_of_ble_eq_true rfl) rfl (fun M12 => ?_)
      exact r_vret hx (hd 43) rfl rfl hz
    refine r_if_ne (tgt := 76) (pc' := 27) hx (hd 14) (by decide) (fun _ => ?_) rfl (fun _ => ?_)
    · skip
      refine r_sub [0] rfl ?_
      exact hj11
    · skip
      refine r_iload_n (pc' := 28) hx (hd 15) rfl 2 rfl rfl ?_
      refine r_iconst (pc' := 29) (v := 4) hx (hd 16) (by decide) rfl ?_
      refine r_icmp_eq (tgt := 76) (pc' := 32) hx (hd 17) (by decide) (fun _ => ?_) rfl (fun _ => ?_)
      · skip
        refine r_sub [0] rfl ?_
        exact hj11
      · skip
        refine r_iload_n (pc' := 33) hx (hd 18) rfl 2 rfl rfl ?_
        refine r_jn2 72 (fun v13 M14 => [(0, .ref t), (1, .int p1)]) (fun v13 M14 => [.int v13]) (fun v13 M14 => M14) (fun v13 M14 => ?_) (fun j15 hj16 => ?_)
        · skip
          refine r_istore_n (pc' := 73) (L' := [(2, .int v13), (0, .ref t), (1, .int p1)]) hx (hd 38) rfl (by decide) rfl rfl ?_
          refine r_goto (tgt := 20) hx (hd 39) (by decide) ?_
          refine r_sub [1, 2, 0] rfl ?_
          exact ih9 v13 M14
        refine r_if_ne (tgt := 43) (pc' := 36) hx (hd 19) (by decide) (fun _ => ?_) rfl (fun _ => ?_)
        · skip
          refine r_iload_n (pc' := 44) hx (hd 23) rfl 2 rfl rfl ?_
          refine r_iconst (pc' := 45) (v := 1) hx (hd 24) (by decide) rfl ?_
          refine r_icmp_ne (tgt := 55) (pc' := 48) hx (hd 25) (by decide) (fun _ => ?_) rfl (fun _ => ?_)
          · skip
            refine r_iload_n (pc' := 56) hx (hd 29) rfl 2 rfl rfl ?_
            refine r_iconst (pc' := 57) (v := 3) hx (hd 30) (by decide) rfl ?_
            refine r_icmp_ne (tgt := 68) (pc' := 60) hx (hd 31) (by decide) (fun _ => ?_) rfl (fun _ => ?_)
            · skip
              refine r_aload_n (pc' := 69) hx (hd 36) rfl 0 rfl rfl ?_
              refine r_callVI (pc' := 72) (As := []) (rest := []) hx (hd 37) md_X12_behindTest mi_X12_behindTest ms_X12_behindTest ml_12_395 (cX12_behindTest (xl x) w hL t ht M7) ht rfl (by decide) ⟨Nat.le_of_ble_eq_true rfl, Nat.le_of_ble_eq_true rfl⟩ rfl rfl (Nat.le_of_ble_eq_true rfl) (fun r18 => .int r18 :: []) (fun _ => rfl) rfl (fun r18 M17 => ?_)
              refine r_sub [0, 1] rfl ?_
              exact hj16 r18 M17
            · skip
              refine r_aload_n (pc' := 61) hx (hd 32) rfl 0 rfl rfl ?_
              refine r_iload_n (pc' := 62) hx (hd 33) rfl 1 rfl rfl ?_
              refine r_callVI (pc' := 65) (As := [.int p1]) (rest := []) hx (hd 34) md_X12_behindSum mi_X12_behindSum ms_X12_behindSum ml_12_391 (cX12_behindSum (xl x) w hL t ht p1 M7) ht rfl (by decide) ⟨Nat.le_of_ble_eq_true rfl, Nat.le_of_ble_eq_true rfl⟩ rfl rfl (Nat.le_of_ble_eq_true rfl) (fun r20 => .int r20 :: []) (fun _ => rfl) rfl (fun r20 M19 => ?_)
              refine r_goto (tgt := 72) hx (hd 35) (by decide) ?_
              refine r_sub [0, 1] rfl ?_
              exact hj16 r20 M19
          · skip
            refine r_aload_n (pc' := 49) hx (hd 26) rfl 0 rfl rfl ?_
            refine r_callVI (pc' := 52) (As := []) (rest := []) hx (hd 27) md_X12_readPart mi_X12_readPart ms_X12_readPart ml_12_371 (cX12_readPart (xl x) w hL t ht M7) ht rfl (by decide) ⟨Nat.le_of_ble_eq_true rfl, Nat.le_of_ble_eq_true rfl⟩ rfl rfl (Nat.le_of_ble_eq_true rfl) (fun r22 => .int r22 :: []) (fun _ => rfl) rfl (fun r22 M21 => ?_)
            refine r_goto (tgt := 72) hx (hd 28) (by decide) ?_
            refine r_sub [0, 1] rfl ?_
            exact hj16 r22 M21
        · skip
          refine r_aload_n (pc' := 37) hx (hd 20) rfl 0 rfl rfl ?_
          refine r_callVI (pc' := 40) (As := []) (rest := []) hx (hd 21) md_X12_readPlain mi_X12_readPlain ms_X12_readPlain ml_12_388 (cX12_readPlain (xl x) w hL t ht M7) ht rfl (by decide) ⟨Nat.le_of_ble_eq_true rfl, Nat.le_of_ble_eq_true rfl⟩ rfl rfl (Nat.le_of_ble_eq_true rfl) (fun r24 => .int r24 :: []) (fun _ => rfl) rfl (fun r24 M23 => ?_)
          refine r_goto (tgt := 72) hx (hd 22) (by decide) ?_
          refine r_sub [0, 1] rfl ?_
          exact hj16 r24 M23
  refine r_if_eq (tgt := 18) (pc' := 14) hx (hd 7) (by decide) (fun _ => ?_) rfl (fun _ => ?_)
  · skip
    refine r_iconst (pc' := 19) (v := 1) hx (hd 10) (by decide) rfl ?_
    exact hj5 1
  · skip
    refine r_iconst (pc' := 15) (v := 0) hx (hd 8) (by decide) rfl ?_
    refine r_goto (tgt := 19) hx (hd 9) (by decide) ?_
    exact hj5 0
abbrev yX12_readLaw : MethodName := ({ cls := "CribbageRoomModel", name := "readLaw", desc := "()V" } : Jvm.MethodName)
def tbX12_readLaw : List (Nat × Instr × Nat) := [(0, .iconst (-1), 1), (1, .istore_n 1, 1), (2, .iconst 0, 1), (3, .istore_n 2, 1), (4, .iload_n 2, 1), (5, .bipush 7, 2), (7, .if_icmp .ge 28, 3), (10, .aload_n 0, 1), (11, .aload_n 0, 1), (12, .getfield 104, 3), (15, .iload_n 2, 1), (16, .laload, 1), (17, .invokevirtual 328, 3), (20, .ifCond .eq 7, 3), (23, .iload_n 2, 1), (24, .goto 4, 3), (27, .iload_n 1, 1), (28, .istore_n 1, 1), (29, .iinc 2 1, 3), (32, .goto (-28), 3), (35, .aload_n 0, 1), (36, .iload_n 1, 1), (37, .iconst (-1), 1), (38, .if_icmp .eq 16, 3), (41, .aload_n 0, 1), (42, .getfield 401, 3), (45, .bipush 12, 2), (47, .if_icmp .ge 7, 3), (50, .iconst 1, 1), (51, .goto 4, 3), (54, .iconst 0, 1), (55, .invokevirtual 303, 3), (58, .aload_n 0, 1), (59, .getfield 270, 3), (62, .ifCond .eq 4, 3), (65, .return_, 1), (66, .bipush 8, 2), (68, .aload_n 0, 1), (69, .getfield 401, 3), (72, .imul, 1), (73, .istore_n 2, 1), (74, .iconst 0, 1), (75, .istore_n 3, 1), (76, .iload_n 3, 1), (77, .bipush 8, 2), (79, .if_icmp .ge 18, 3), (82, .aload_n 0, 1), (83, .getfield 42, 3), (86, .iload_n 2, 1), (87, .iload_n 3, 1), (88, .iadd, 1), (89, .iconst 0, 1), (90, .iastore, 1), (91, .iinc 3 1, 3), (94, .goto (-18), 3), (97, .aload_n 0, 1), (98, .getfield 42, 3), (101, .iload_n 2, 1), (102, .iload_n 1, 1), (103, .iastore, 1), (104, .aload_n 0, 1), (105, .dup, 1), (106, .getfield 401, 3), (109, .iconst 1, 1), (110, .iadd, 1), (111, .putfield 401, 3), (114, .aload_n 0, 1), (115, .getfield 42, 3), (118, .iload_n 2, 1), (119, .iconst 3, 1), (120, .iadd, 1), (121, .aload_n 0, 1), (122, .getfield 307, 3), (125, .iastore, 1), (126, .iload_n 1, 1), (127, .bipush 6, 2), (129, .if_icmp .eq 8, 3), (132, .aload_n 0, 1), (133, .iconst 0, 1), (134, .invokevirtual 404, 3), (137, .aload_n 0, 1), (138, .getfield 42, 3), (141, .iload_n 2, 1), (142, .iconst 4, 1), (143, .iadd, 1), (144, .aload_n 0, 1), (145, .getfield 307, 3), (148, .iastore, 1), (149, .aload_n 0, 1), (150, .getfield 42, 3), (153, .iload_n 2, 1), (154, .iconst 5, 1), (155, .iadd, 1), (156, .aload_n 0, 1), (157, .getfield 307, 3), (160, .iastore, 1), (161, .aload_n 0, 1), (162, .getfield 270, 3), (165, .ifCond .ne 22, 3), (168, .aload_n 0, 1), (169, .ldc2_w 407, 3), (172, .invokevirtual 328, 3), (175, .ifCond .eq 12, 3), (178, .aload_n 0, 1), (179, .invokevirtual 274, 3), (182, .aload_n 0, 1), (183, .iconst 1, 1), (184, .invokevirtual 404, 3), (187, .aload_n 0, 1), (188, .getfield 42, 3), (191, .iload_n 2, 1), (192, .bipush 6, 2), (194, .iadd, 1), (195, .aload_n 0, 1), (196, .getfield 307, 3), (199, .iastore, 1), (200, .return_, 1)]
theorem dX12_readLaw : ∀ q ∈ tbX12_readLaw, decode prog_14_method_57_code q.1 = .ok q.2 := by decide +kernel
set_option maxRecDepth 20000 in
theorem cX12_readLaw (l : Launch) (w : WX) (hL : Lay w) (t : Nat) (ht : Wat w t 12 0) (M : Mem) : Ct l w yX12_readLaw prog_14_method_57_code 4 (Option.none : Option FieldType) 7 151 evU emU [.ref t] M (FX12_readLaw t M) := by
  refine ct_of (by decide) (Nat.le_of_ble_eq_true rfl) (fun x hl hx hb hz => ?_)
  subst hl
  have hd : ∀ i, DAt (xc x).code (tbX12_readLaw[i]?) := fun i => by rw [hb]; exact dat_of dX12_readLaw i
  show C x w (Qn x w evU emU) 4 0 [(0, .ref t)] [] M (FX12_readLaw t M)
  unfold FX12_readLaw
  refine r_iconst (pc' := 1) (v := (-1)) hx (hd 0) (by decide) rfl ?_
  refine r_istore_n (pc' := 2) (L' := [(1, .int (-1)), (0, .ref t)]) hx (hd 1) rfl (by decide) rfl rfl ?_
  refine r_iconst (pc' := 3) (v := 0) hx (hd 2) (by decide) rfl ?_
  refine r_istore_n (pc' := 4) (L' := [(2, .int 0), (1, .int (-1)), (0, .ref t)]) hx (hd 3) rfl (by decide) rfl rfl ?_
  refine r_sub [2, 1, 0] rfl ?_
  refine r_wl2 (fun v1 v2 => [(0, .ref t), (1, .int v1), (2, .int v2)]) (fun v1 v2 => []) (fun v1 v2 => M) (fun v1 v2 rec3 ih4 => ?_) fuel (-1) 0
  refine r_iload_n (pc' := 5) hx (hd 4) rfl 2 rfl rfl ?_
  refine r_bipush (pc' := 7) (v := 7) hx (hd 5) (by decide) rfl ?_
  refine r_icmp_ge (tgt := 35) (pc' := 10) hx (hd 6) (by decide) (fun _ => ?_) rfl (fun _ => ?_)
  · skip
    refine r_aload_n (pc' := 36) hx (hd 20) rfl 0 rfl rfl ?_
    refine r_iload_n (pc' := 37) hx (hd 21) rfl 1 rfl rfl ?_
    refine r_iconst (pc' := 38) (v := (-1)) hx (hd 22) (by decide) rfl ?_
    refine r_jn1 55 (fun v5 => [(0, .ref t), (1, .int v1)]) (fun v5 => [.int v5, .ref t]) (fun v5 => M) (fun v5 => ?_) (fun j6 hj7 => ?_)
    · skip
      refine r_callVU (pc' := 58) (As := [.int v5]) (rest := []) hx (hd 31) md_X12_must mi_X12_must ms_X12_must ml_12_303 (cX12_must (xl x) w hL t ht v5 M) ht rfl (by decide) ⟨Nat.le_of_ble_eq_true rfl, Nat.le_of_ble_eq_true rfl⟩ rfl rfl (Nat.le_of_ble_eq_true rfl) rfl (fun M8 => ?_)
      refine r_aload_n (pc' := 59) hx (hd 32) rfl 0 rfl rfl ?_
      refine r_get (pc' := 62) (v := .int (mI M8 t 19)) hx (hd 33) fl_12_270 ht rfl (by decide) rfl ?_
      refine r_if_eq (tgt := 66) (pc' := 65) hx (hd 34) (by decide) (fun _ => ?_) rfl (fun _ => ?_)
      · skip
        refine r_bipush (pc' := 68) (v := 8) hx (hd 36) (by decide) rfl ?_
        refine r_aload_n (pc' := 69) hx (hd 37) rfl 0 rfl rfl ?_
        refine r_get (pc' := 72) (v := .int (mI M8 t 21)) hx (hd 38) fl_12_401 ht rfl (by decide) rfl ?_
        refine r_imul (pc' := 73) hx (hd 39) rfl ?_
        refine r_nmI (fun v9 => ?_)
        refine r_istore_n (pc' := 74) (L' := [(2, .int v9), (0, .ref t), (1, .int v1)]) hx (hd 40) rfl (by decide) rfl rfl ?_
        refine r_iconst (pc' := 75) (v := 0) hx (hd 41) (by decide) rfl ?_
        refine r_istore_n (pc' := 76) (L' := [(3, .int 0), (2, .int v9), (0, .ref t), (1, .int v1)]) hx (hd 42) rfl (by decide) rfl rfl ?_
        refine r_sub [2, 3, 1, 0] rfl ?_
        refine r_wl2 (fun v10 M11 => [(0, .ref t), (1, .int v1), (2, .int v9), (3, .int v10)]) (fun v10 M11 => []) (fun v10 M11 => M11) (fun v10 M11 rec12 ih13 => ?_) fuel 0 M8
        refine r_iload_n (pc' := 77) hx (hd 43) rfl 3 rfl rfl ?_
        refine r_bipush (pc' := 79) (v := 8) hx (hd 44) (by decide) rfl ?_
        refine r_icmp_ge (tgt := 97) (pc' := 82) hx (hd 45) (by decide) (fun _ => ?_) rfl (fun _ => ?_)
        · skip
          refine r_aload_n (pc' := 98) hx (hd 55) rfl 0 rfl rfl ?_
          refine r_get (pc' := 101) (v := .ref (t + 10)) hx (hd 56) fl_12_42 ht rfl (by decide) rfl ?_
          have h14 := hL.1 _ _ _ ht 22 10 20 96 rfl
          refine r_iload_n (pc' := 102) hx (hd 57) rfl 2 rfl rfl ?_
          refine r_iload_n (pc' := 103) hx (hd 58) rfl 1 rfl rfl ?_
          refine r_gd (fun h16 => ?_)
          refine r_iast (pc' := 104) (k := ix v9) hx (hd 59) h14 h16 rfl rfl (fun M15 => ?_)
          refine r_aload_n (pc' := 105) hx (hd 60) rfl 0 rfl rfl ?_
          refine r_dup (pc' := 106) hx (hd 61) rfl rfl ?_
          refine r_get (pc' := 109) (v := .int (mI M15 t 21)) hx (hd 62) fl_12_401 ht rfl (by decide) rfl ?_
          refine r_iconst (pc' := 110) (v := 1) hx (hd 63) (by decide) rfl ?_
          refine r_iadd (pc' := 111) hx (hd 64) rfl ?_
          refine r_putI (pc' := 114) hx (hd 65) fp_12_401 ht rfl (by decide) rfl (fun M17 => ?_)
          refine r_aload_n (pc' := 115) hx (hd 66) rfl 0 rfl rfl ?_
          refine r_get (pc' := 118) (v := .ref (t + 10)) hx (hd 67) fl_12_42 ht rfl (by decide) rfl ?_
          have h18 := hL.1 _ _ _ ht 22 10 20 96 rfl
          refine r_iload_n (pc' := 119) hx (hd 68) rfl 2 rfl rfl ?_
          refine r_iconst (pc' := 120) (v := 3) hx (hd 69) (by decide) rfl ?_
          refine r_iadd (pc' := 121) hx (hd 70) rfl ?_
          refine r_aload_n (pc' := 122) hx (hd 71) rfl 0 rfl rfl ?_
          refine r_get (pc' := 125) (v := .int (mI M17 t 23)) hx (hd 72) fl_12_307 ht rfl (by decide) rfl ?_
          refine r_gd (fun h20 => ?_)
          refine r_iast (pc' := 126) (k := ix (v9 + 3)) hx (hd 73) h18 h20 rfl rfl (fun M19 => ?_)
          refine r_iload_n (pc' := 127) hx (hd 74) rfl 1 rfl rfl ?_
          refine r_bipush (pc' := 129) (v := 6) hx (hd 75) (by decide) rfl ?_
          refine r_jn1 137 (fun M21 => [(0, .ref t), (2, .int v9)]) (fun M21 => []) (fun M21 => M21) (fun M21 => ?_) (fun j22 hj23 => ?_)
          · skip
            refine r_aload_n (pc' := 138) hx (hd 80) rfl 0 rfl rfl ?_
            refine r_get (pc' := 141) (v := .ref (t + 10)) hx (hd 81) fl_12_42 ht rfl (by decide) rfl ?_
            have h24 := hL.1 _ _ _ ht 22 10 20 96 rfl
            refine r_iload_n (pc' := 142) hx (hd 82) rfl 1 rfl rfl ?_
            refine r_iconst (pc' := 143) (v := 4) hx (hd 83) (by decide) rfl ?_
            refine r_iadd (pc' := 144) hx (hd 84) rfl ?_
            refine r_aload_n (pc' := 145) hx (hd 85) rfl 0 rfl rfl ?_
            refine r_get (pc' := 148) (v := .int (mI M21 t 23)) hx (hd 86) fl_12_307 ht rfl (by decide) rfl ?_
            refine r_gd (fun h26 => ?_)
            refine r_iast (pc' := 149) (k := ix (v9 + 4)) hx (hd 87) h24 h26 rfl rfl (fun M25 => ?_)
            refine r_aload_n (pc' := 150) hx (hd 88) rfl 0 rfl rfl ?_
            refine r_get (pc' := 153) (v := .ref (t + 10)) hx (hd 89) fl_12_42 ht rfl (by decide) rfl ?_
            have h27 := hL.1 _ _ _ ht 22 10 20 96 rfl
            refine r_iload_n (pc' := 154) hx (hd 90) rfl 1 rfl rfl ?_
            refine r_iconst (pc' := 155) (v := 5) hx (hd 91) (by decide) rfl ?_
            refine r_iadd (pc' := 156) hx (hd 92) rfl ?_
            refine r_aload_n (pc' := 157) hx (hd 93) rfl 0 rfl rfl ?_
            refine r_get (pc' := 160) (v := .int (mI M25 t 23)) hx (hd 94) fl_12_307 ht rfl (by decide) rfl ?_
            refine r_gd (fun h29 => ?_)
            refine r_iast (pc' := 161) (k := ix (v9 + 5)) hx (hd 95) h27 h29 rfl rfl (fun M28 => ?_)
            refine r_aload_n (pc' := 162) hx (hd 96) rfl 0 rfl rfl ?_
            refine r_get (pc' := 165) (v := .int (mI M28 t 19)) hx (hd 97) fl_12_270 ht rfl (by decide) rfl ?_
            refine r_jn1 187 (fun M30 => [(0, .ref t), (2, .int v9)]) (fun M30 => []) (fun M30 => M30) (fun M30 => ?_) (fun j31 hj32 => ?_)
            · skip
              refine r_aload_n (pc' := 188) hx (hd 108) rfl 0 rfl rfl ?_
              refine r_get (pc' := 191) (v := .ref (t + 10)) hx (hd 109) fl_12_42 ht rfl (by decide) rfl ?_
              have h33 := hL.1 _ _ _ ht 22 10 20 96 rfl
              refine r_iload_n (pc' := 192) hx (hd 110) rfl 1 rfl rfl ?_
              refine r_bipush (pc' := 194) (v := 6) hx (hd 111) (by decide) rfl ?_
              refine r_iadd (pc' := 195) hx (hd 112) rfl ?_
              refine r_aload_n (pc' := 196) hx (hd 113) rfl 0 rfl rfl ?_
              refine r_get (pc' := 199) (v := .int (mI M30 t 23)) hx (hd 114) fl_12_307 ht rfl (by decide) rfl ?_
              refine r_gd (fun h35 => ?_)
              refine r_iast (pc' := 200) (k := ix (v9 + 6)) hx (hd 115) h33 h35 rfl rfl (fun M34 => ?_)
              exact r_vret hx (hd 116) rfl rfl hz
            refine r_if_ne (tgt := 187) (pc' := 168) hx (hd 98) (by decide) (fun _ => ?_) rfl (fun _ => ?_)
            · skip
              exact hj32 M28
            · skip
              refine r_aload_n (pc' := 169) hx (hd 99) rfl 0 rfl rfl ?_
              refine r_ldc2 (pc' := 172) hx (hd 100) kc_12_407 rfl ?_
              refine r_callV (pc' := 175) (As := [.long 294]) (rest := []) hx (hd 101) md_X12_isWord mi_X12_isWord ms_X12_isWord ml_12_328 (cX12_isWord (xl x) w hL t ht 294 M28) ht rfl (by decide) ⟨Nat.le_of_ble_eq_true rfl, Nat.le_of_ble_eq_true rfl⟩ rfl rfl (Nat.le_of_ble_eq_true rfl) (fun r36 => .int r36 :: []) (fun _ => M28) (fun _ => ⟨rfl, rfl⟩) rfl (fun r36 _ => ?_)
              refine r_if_eq (tgt := 187) (pc' := 178) hx (hd 102) (by decide) (fun _ => ?_) rfl (fun _ => ?_)
              · skip
                exact hj32 M28
              · skip
                refine r_aload_n (pc' := 179) hx (hd 103) rfl 0 rfl rfl ?_
                refine r_callVU (pc' := 182) (As := []) (rest := []) hx (hd 104) md_X12_next mi_X12_next ms_X12_next ml_12_274 (cX12_next (xl x) w hL t ht M28) ht rfl (by decide) ⟨Nat.le_of_ble_eq_true rfl, Nat.le_of_ble_eq_true rfl⟩ rfl rfl (Nat.le_of_ble_eq_true rfl) rfl (fun M37 => ?_)
                refine r_aload_n (pc' := 183) hx (hd 105) rfl 0 rfl rfl ?_
                refine r_iconst (pc' := 184) (v := 1) hx (hd 106) (by decide) rfl ?_
                refine r_callVU (pc' := 187) (As := [.int 1]) (rest := []) hx (hd 107) md_X12_readExpression mi_X12_readExpression ms_X12_readExpression ml_12_404 (cX12_readExpression (xl x) w hL t ht 1 M37) ht rfl (by decide) ⟨Nat.le_of_ble_eq_true rfl, Nat.le_of_ble_eq_true rfl⟩ rfl rfl (Nat.le_of_ble_eq_true rfl) rfl (fun M38 => ?_)
                exact hj32 M38
          refine r_icmp_eq (tgt := 137) (pc' := 132) hx (hd 76) (by decide) (fun _ => ?_) rfl (fun _ => ?_)
          · skip
            refine r_sub [0, 2] rfl ?_
            exact hj23 M19
          · skip
            refine r_aload_n (pc' := 133) hx (hd 77) rfl 0 rfl rfl ?_
            refine r_iconst (pc' := 134) (v := 0) hx (hd 78) (by decide) rfl ?_
            refine r_callVU (pc' := 137) (As := [.int 0]) (rest := []) hx (hd 79) md_X12_readExpression mi_X12_readExpression ms_X12_readExpression ml_12_404 (cX12_readExpression (xl x) w hL t ht 0 M19) ht rfl (by decide) ⟨Nat.le_of_ble_eq_true rfl, Nat.le_of_ble_eq_true rfl⟩ rfl rfl (Nat.le_of_ble_eq_true rfl) rfl (fun M39 => ?_)
            refine r_sub [0, 2] rfl ?_
            exact hj23 M39
        · skip
          refine r_aload_n (pc' := 83) hx (hd 46) rfl 0 rfl rfl ?_
          refine r_get (pc' := 86) (v := .ref (t + 10)) hx (hd 47) fl_12_42 ht rfl (by decide) rfl ?_
          have h40 := hL.1 _ _ _ ht 22 10 20 96 rfl
          refine r_iload_n (pc' := 87) hx (hd 48) rfl 2 rfl rfl ?_
          refine r_iload_n (pc' := 88) hx (hd 49) rfl 3 rfl rfl ?_
          refine r_iadd (pc' := 89) hx (hd 50) rfl ?_
          refine r_iconst (pc' := 90) (v := 0) hx (hd 51) (by decide) rfl ?_
          refine r_gd (fun h42 => ?_)
          refine r_iast (pc' := 91) (k := ix (v9 + v10)) hx (hd 52) h40 h42 rfl rfl (fun M41 => ?_)
          refine r_iinc (pc' := 94) (v := 1) hx (hd 53) 3 rfl (by decide) (by decide) (fun v43 => [(3, .int v43), (0, .ref t), (1, .int v1), (2, .int v9)]) (fun _ => rfl) rfl (fun v43 => ?_)
          refine r_goto (tgt := 76) hx (hd 54) (by decide) ?_
          refine r_sub [1, 2, 3, 0] rfl ?_
          exact ih13 v43 M41
      · skip
        exact r_vret hx (hd 35) rfl rfl hz
    refine r_jn0 54 ([(0, .ref t), (1, .int v1)]) ([.ref t]) (M) (?_) (fun j44 hj45 => ?_)
    · skip
      refine r_iconst (pc' := 55) (v := 0) hx (hd 30) (by decide) rfl ?_
      exact hj7 0
    refine r_icmp_eq (tgt := 54) (pc' := 41) hx (hd 23) (by decide) (fun _ => ?_) rfl (fun _ => ?_)
    · skip
      refine r_sub [0, 1] rfl ?_
      exact hj45
    · skip
      refine r_aload_n (pc' := 42) hx (hd 24) rfl 0 rfl rfl ?_
      refine r_get (pc' := 45) (v := .int (mI M t 21)) hx (hd 25) fl_12_401 ht rfl (by decide) rfl ?_
      refine r_bipush (pc' := 47) (v := 12) hx (hd 26) (by decide) rfl ?_
      refine r_icmp_ge (tgt := 54) (pc' := 50) hx (hd 27) (by decide) (fun _ => ?_) rfl (fun _ => ?_)
      · skip
        refine r_sub [0, 1] rfl ?_
        exact hj45
      · skip
        refine r_iconst (pc' := 51) (v := 1) hx (hd 28) (by decide) rfl ?_
        refine r_goto (tgt := 55) hx (hd 29) (by decide) ?_
        refine r_sub [0, 1] rfl ?_
        exact hj7 1
  · skip
    refine r_aload_n (pc' := 11) hx (hd 7) rfl 0 rfl rfl ?_
    refine r_aload_n (pc' := 12) hx (hd 8) rfl 0 rfl rfl ?_
    refine r_get (pc' := 15) (v := .ref (t + 17)) hx (hd 9) fl_12_104 ht rfl (by decide) rfl ?_
    have h46 := hL.1 _ _ _ ht 33 17 21 7 rfl
    refine r_iload_n (pc' := 16) hx (hd 10) rfl 2 rfl rfl ?_
    refine r_gd (fun h47 => ?_)
    refine r_lald (pc' := 17) (k := ix v2) hx (hd 11) h46 h47 rfl rfl ?_
    refine r_callV (pc' := 20) (As := [.long (mJ M (t + 17) (ix v2))]) (rest := []) hx (hd 12) md_X12_isWord mi_X12_isWord ms_X12_isWord ml_12_328 (cX12_isWord (xl x) w hL t ht (mJ M (t + 17) (ix v2)) M) ht rfl (by decide) ⟨Nat.le_of_ble_eq_true rfl, Nat.le_of_ble_eq_true rfl⟩ rfl rfl (Nat.le_of_ble_eq_true rfl) (fun r48 => .int r48 :: []) (fun _ => M) (fun _ => ⟨rfl, rfl⟩) rfl (fun r48 _ => ?_)
    refine r_jn1 28 (fun v49 => [(0, .ref t), (2, .int v2)]) (fun v49 => [.int v49]) (fun v49 => M) (fun v49 => ?_) (fun j50 hj51 => ?_)
    · skip
      refine r_istore_n (pc' := 29) (L' := [(1, .int v49), (0, .ref t), (2, .int v2)]) hx (hd 17) rfl (by decide) rfl rfl ?_
      refine r_iinc (pc' := 32) (v := 1) hx (hd 18) 2 rfl (by decide) (by decide) (fun v52 => [(2, .int v52), (1, .int v49), (0, .ref t)]) (fun _ => rfl) rfl (fun v52 => ?_)
      refine r_goto (tgt := 4) hx (hd 19) (by decide) ?_
      refine r_sub [2, 1, 0] rfl ?_
      exact ih4 v49 v52
    refine r_if_eq (tgt := 27) (pc' := 23) hx (hd 13) (by decide) (fun _ => ?_) rfl (fun _ => ?_)
    · skip
      refine r_iload_n (pc' := 28) hx (hd 16) rfl 1 rfl rfl ?_
      refine r_sub [0, 2] rfl ?_
      exact hj51 v1
    · skip
      refine r_iload_n (pc' := 24) hx (hd 14) rfl 2 rfl rfl ?_
      refine r_goto (tgt := 28) hx (hd 15) (by decide) ?_
      refine r_sub [0, 2] rfl ?_
      exact hj51 v2
abbrev yX12_endText : MethodName := ({ cls := "CribbageRoomModel", name := "endText", desc := "()V" } : Jvm.MethodName)
def tbX12_endText : List (Nat × Instr × Nat) := [(0, .aload_n 0, 1), (1, .getfield 270, 3), (4, .ifCond .ne 15, 3), (7, .aload_n 0, 1), (8, .getfield 290, 3), (11, .ifCond .eq 8, 3), (14, .aload_n 0, 1), (15, .iconst 0, 1), (16, .invokevirtual 303, 3), (19, .aload_n 0, 1), (20, .iconst 0, 1), (21, .putfield 347, 3), (24, .aload_n 0, 1), (25, .iconst 0, 1), (26, .putfield 255, 3), (29, .return_, 1)]
theorem dX12_endText : ∀ q ∈ tbX12_endText, decode prog_14_method_56_code q.1 = .ok q.2 := by decide +kernel
set_option maxRecDepth 20000 in
theorem cX12_endText (l : Launch) (w : WX) (hL : Lay w) (t : Nat) (ht : Wat w t 12 0) (M : Mem) : Ct l w yX12_endText prog_14_method_56_code 1 (Option.none : Option FieldType) 3 61 evU emU [.ref t] M (FX12_endText t M) := by
  refine ct_of (by decide) (Nat.le_of_ble_eq_true rfl) (fun x hl hx hb hz => ?_)
  subst hl
  have hd : ∀ i, DAt (xc x).code (tbX12_endText[i]?) := fun i => by rw [hb]; exact dat_of dX12_endText i
  show C x w (Qn x w evU emU) 1 0 [(0, .ref t)] [] M (FX12_endText t M)
  unfold FX12_endText
  refine r_aload_n (pc' := 1) hx (hd 0) rfl 0 rfl rfl ?_
  refine r_get (pc' := 4) (v := .int (mI M t 19)) hx (hd 1) fl_12_270 ht rfl (by decide) rfl ?_
  refine r_jn1 19 (fun M1 => [(0, .ref t)]) (fun M1 => []) (fun M1 => M1) (fun M1 => ?_) (fun j2 hj3 => ?_)
  · skip
    refine r_aload_n (pc' := 20) hx (hd 9) rfl 0 rfl rfl ?_
    refine r_iconst (pc' := 21) (v := 0) hx (hd 10) (by decide) rfl ?_
    refine r_putZ (pc' := 24) hx (hd 11) fp_12_347 ht rfl (by decide) rfl rfl (fun M4 => ?_)
    refine r_aload_n (pc' := 25) hx (hd 12) rfl 0 rfl rfl ?_
    refine r_iconst (pc' := 26) (v := 0) hx (hd 13) (by decide) rfl ?_
    refine r_putI (pc' := 29) hx (hd 14) fp_12_255 ht rfl (by decide) rfl (fun M5 => ?_)
    exact r_vret hx (hd 15) rfl rfl hz
  refine r_if_ne (tgt := 19) (pc' := 7) hx (hd 2) (by decide) (fun _ => ?_) rfl (fun _ => ?_)
  · skip
    exact hj3 M
  · skip
    refine r_aload_n (pc' := 8) hx (hd 3) rfl 0 rfl rfl ?_
    refine r_get (pc' := 11) (v := .int (mI M t 16)) hx (hd 4) fl_12_290 ht rfl (by decide) rfl ?_
    refine r_if_eq (tgt := 19) (pc' := 14) hx (hd 5) (by decide) (fun _ => ?_) rfl (fun _ => ?_)
    · skip
      exact hj3 M
    · skip
      refine r_aload_n (pc' := 15) hx (hd 6) rfl 0 rfl rfl ?_
      refine r_iconst (pc' := 16) (v := 0) hx (hd 7) (by decide) rfl ?_
      refine r_callVU (pc' := 19) (As := [.int 0]) (rest := []) hx (hd 8) md_X12_must mi_X12_must ms_X12_must ml_12_303 (cX12_must (xl x) w hL t ht 0 M) ht rfl (by decide) ⟨Nat.le_of_ble_eq_true rfl, Nat.le_of_ble_eq_true rfl⟩ rfl rfl (Nat.le_of_ble_eq_true rfl) rfl (fun M6 => ?_)
      exact hj3 M6
abbrev yX12_law : MethodName := ({ cls := "CribbageRoomModel", name := "law", desc := "()I" } : Jvm.MethodName)
def tbX12_law : List (Nat × Instr × Nat) := [(0, .aload_n 0, 1), (1, .iconst 0, 1), (2, .putfield 188, 3), (5, .aload_n 0, 1), (6, .getfield 13, 3), (9, .iconst 1, 1), (10, .iaload, 1), (11, .bipush 6, 2), (13, .if_icmp .ne 15, 3), (16, .aload_n 0, 1), (17, .iconst 0, 1), (18, .putfield 255, 3), (21, .aload_n 0, 1), (22, .bipush (-5), 2), (24, .invokevirtual 197, 3), (27, .ireturn, 1), (28, .aload_n 0, 1), (29, .iconst 0, 1), (30, .invokevirtual 409, 3), (33, .aload_n 0, 1), (34, .invokevirtual 412, 3), (37, .aload_n 0, 1), (38, .getfield 270, 3), (41, .ifCond .ne 23, 3), (44, .aload_n 0, 1), (45, .bipush 59, 2), (47, .invokevirtual 341, 3), (50, .ifCond .eq 14, 3), (53, .aload_n 0, 1), (54, .invokevirtual 274, 3), (57, .aload_n 0, 1), (58, .invokevirtual 412, 3), (61, .goto (-24), 3), (64, .aload_n 0, 1), (65, .invokevirtual 415, 3), (68, .aload_n 0, 1), (69, .getfield 270, 3), (72, .ifCond .eq 10, 3), (75, .aload_n 0, 1), (76, .bipush (-6), 2), (78, .invokevirtual 197, 3), (81, .ireturn, 1), (82, .sipush 194, 3), (85, .sipush 900, 3), (88, .aload_n 0, 1), (89, .getfield 13, 3), (92, .iconst 1, 1), (93, .iaload, 1), (94, .imul, 1), (95, .iadd, 1), (96, .istore_n 1, 1), (97, .aload_n 0, 1), (98, .getfield 13, 3), (101, .iload_n 1, 1), (102, .iconst 1, 1), (103, .iadd, 1), (104, .aload_n 0, 1), (105, .getfield 401, 3), (108, .iastore, 1), (109, .iconst 0, 1), (110, .istore_n 2, 1), (111, .iload_n 2, 1), (112, .bipush 8, 2), (114, .aload_n 0, 1), (115, .getfield 401, 3), (118, .imul, 1), (119, .if_icmp .ge 25, 3), (122, .aload_n 0, 1), (123, .getfield 13, 3), (126, .iload_n 1, 1), (127, .iconst 2, 1), (128, .iadd, 1), (129, .iload_n 2, 1), (130, .iadd, 1), (131, .aload_n 0, 1), (132, .getfield 42, 3), (135, .iload_n 2, 1), (136, .iaload, 1), (137, .iastore, 1), (138, .iinc 2 1, 3), (141, .goto (-30), 3), (144, .iconst 0, 1), (145, .istore_n 2, 1), (146, .iload_n 2, 1), (147, .aload_n 0, 1), (148, .getfield 307, 3), (151, .if_icmp .ge 49, 3), (154, .aload_n 0, 1), (155, .getfield 13, 3), (158, .iload_n 1, 1), (159, .bipush 98, 2), (161, .iadd, 1), (162, .iconst 2, 1), (163, .iload_n 2, 1), (164, .imul, 1), (165, .iadd, 1), (166, .aload_n 0, 1), (167, .getfield 45, 3), (170, .iload_n 2, 1), (171, .iaload, 1), (172, .iastore, 1), (173, .aload_n 0, 1), (174, .getfield 13, 3), (177, .iload_n 1, 1), (178, .bipush 98, 2), (180, .iadd, 1), (181, .iconst 2, 1), (182, .iload_n 2, 1), (183, .imul, 1), (184, .iadd, 1), (185, .iconst 1, 1), (186, .iadd, 1), (187, .aload_n 0, 1), (188, .getfield 48, 3), (191, .iload_n 2, 1), (192, .iaload, 1), (193, .iastore, 1), (194, .iinc 2 1, 3), (197, .goto (-51), 3), (200, .aload_n 0, 1), (201, .getfield 13, 3), (204, .iconst 1, 1), (205, .dup2, 1), (206, .iaload, 1), (207, .iconst 1, 1), (208, .iadd, 1), (209, .iastore, 1), (210, .aload_n 0, 1), (211, .aload_n 0, 1), (212, .getfield 13, 3), (215, .iconst 1, 1), (216, .iaload, 1), (217, .iconst 1, 1), (218, .isub, 1), (219, .invokevirtual 197, 3), (222, .ireturn, 1)]
theorem dX12_law : ∀ q ∈ tbX12_law, decode prog_14_method_58_code q.1 = .ok q.2 := by decide +kernel
set_option maxRecDepth 20000 in
theorem cX12_law (l : Launch) (w : WX) (hL : Lay w) (t : Nat) (ht : Wat w t 12 0) (M : Mem) : Ct l w yX12_law prog_14_method_58_code 3 (Option.some FieldType.int) 8 174 evIM emM [.ref t] M (FX12_law t M) := by
  refine ct_of (by decide) (Nat.le_of_ble_eq_true rfl) (fun x hl hx hb hz => ?_)
  subst hl
  have hd : ∀ i, DAt (xc x).code (tbX12_law[i]?) := fun i => by rw [hb]; exact dat_of dX12_law i
  show C x w (Qn x w evIM emM) 3 0 [(0, .ref t)] [] M (FX12_law t M)
  unfold FX12_law
  refine r_aload_n (pc' := 1) hx (hd 0) rfl 0 rfl rfl ?_
  refine r_iconst (pc' := 2) (v := 0) hx (hd 1) (by decide) rfl ?_
  refine r_putI (pc' := 5) hx (hd 2) fp_12_188 ht rfl (by decide) rfl (fun M1 => ?_)
  refine r_aload_n (pc' := 6) hx (hd 3) rfl 0 rfl rfl ?_
  refine r_get (pc' := 9) (v := .ref (t + 2)) hx (hd 4) fl_12_13 ht rfl (by decide) rfl ?_
  have h2 := hL.1 _ _ _ ht 3 2 20 5594 rfl
  refine r_iconst (pc' := 10) (v := 1) hx (hd 5) (by decide) rfl ?_
  refine r_iald (pc' := 11) (k := 1) hx (hd 6) h2 (by decide) (by decide) rfl ?_
  refine r_bipush (pc' := 13) (v := 6) hx (hd 7) (by decide) rfl ?_
  refine r_icmp_ne (tgt := 28) (pc' := 16) hx (hd 8) (by decide) (fun _ => ?_) rfl (fun _ => ?_)
  · skip
    refine r_aload_n (pc' := 29) hx (hd 16) rfl 0 rfl rfl ?_
    refine r_iconst (pc' := 30) (v := 0) hx (hd 17) (by decide) rfl ?_
    refine r_callVU (pc' := 33) (As := [.int 0]) (rest := []) hx (hd 18) md_X12_beginText mi_X12_beginText ms_X12_beginText ml_12_409 (cX12_beginText (xl x) w hL t ht 0 M1) ht rfl (by decide) ⟨Nat.le_of_ble_eq_true rfl, Nat.le_of_ble_eq_true rfl⟩ rfl rfl (Nat.le_of_ble_eq_true rfl) rfl (fun M3 => ?_)
    refine r_aload_n (pc' := 34) hx (hd 19) rfl 0 rfl rfl ?_
    refine r_callVU (pc' := 37) (As := []) (rest := []) hx (hd 20) md_X12_readLaw mi_X12_readLaw ms_X12_readLaw ml_12_412 (cX12_readLaw (xl x) w hL t ht M3) ht rfl (by decide) ⟨Nat.le_of_ble_eq_true rfl, Nat.le_of_ble_eq_true rfl⟩ rfl rfl (Nat.le_of_ble_eq_true rfl) rfl (fun M4 => ?_)
    refine r_wl1 (fun M5 => [(0, .ref t)]) (fun M5 => []) (fun M5 => M5) (fun M5 rec6 ih7 => ?_) fuel M4
    refine r_aload_n (pc' := 38) hx (hd 21) rfl 0 rfl rfl ?_
    refine r_get (pc' := 41) (v := .int (mI M5 t 19)) hx (hd 22) fl_12_270 ht rfl (by decide) rfl ?_
    refine r_jn0 64 ([(0, .ref t)]) ([]) (M5) (?_) (fun j8 hj9 => ?_)
    · skip
      refine r_aload_n (pc' := 65) hx (hd 33) rfl 0 rfl rfl ?_
      refine r_callVU (pc' := 68) (As := []) (rest := []) hx (hd 34) md_X12_endText mi_X12_endText ms_X12_endText ml_12_415 (cX12_endText (xl x) w hL t ht M5) ht rfl (by decide) ⟨Nat.le_of_ble_eq_true rfl, Nat.le_of_ble_eq_true rfl⟩ rfl rfl (Nat.le_of_ble_eq_true rfl) rfl (fun M10 => ?_)
      refine r_aload_n (pc' := 69) hx (hd 35) rfl 0 rfl rfl ?_
      refine r_get (pc' := 72) (v := .int (mI M10 t 19)) hx (hd 36) fl_12_270 ht rfl (by decide) rfl ?_
      refine r_if_eq (tgt := 82) (pc' := 75) hx (hd 37) (by decide) (fun _ => ?_) rfl (fun _ => ?_)
      · skip
        refine r_sipush (pc' := 85) (v := 194) hx (hd 42) (by decide) rfl ?_
        refine r_sipush (pc' := 88) (v := 900) hx (hd 43) (by decide) rfl ?_
        refine r_aload_n (pc' := 89) hx (hd 44) rfl 0 rfl rfl ?_
        refine r_get (pc' := 92) (v := .ref (t + 2)) hx (hd 45) fl_12_13 ht rfl (by decide) rfl ?_
        have h11 := hL.1 _ _ _ ht 3 2 20 5594 rfl
        refine r_iconst (pc' := 93) (v := 1) hx (hd 46) (by decide) rfl ?_
        refine r_iald (pc' := 94) (k := 1) hx (hd 47) h11 (by decide) (by decide) rfl ?_
        refine r_imul (pc' := 95) hx (hd 48) rfl ?_
        refine r_iadd (pc' := 96) hx (hd 49) rfl ?_
        refine r_nmI (fun v12 => ?_)
        refine r_istore_n (pc' := 97) (L' := [(1, .int v12), (0, .ref t)]) hx (hd 50) rfl (by decide) rfl rfl ?_
        refine r_aload_n (pc' := 98) hx (hd 51) rfl 1 rfl rfl ?_
        refine r_get (pc' := 101) (v := .ref (t + 2)) hx (hd 52) fl_12_13 ht rfl (by decide) rfl ?_
        have h13 := hL.1 _ _ _ ht 3 2 20 5594 rfl
        refine r_iload_n (pc' := 102) hx (hd 53) rfl 0 rfl rfl ?_
        refine r_iconst (pc' := 103) (v := 1) hx (hd 54) (by decide) rfl ?_
        refine r_iadd (pc' := 104) hx (hd 55) rfl ?_
        refine r_aload_n (pc' := 105) hx (hd 56) rfl 1 rfl rfl ?_
        refine r_get (pc' := 108) (v := .int (mI M10 t 21)) hx (hd 57) fl_12_401 ht rfl (by decide) rfl ?_
        refine r_gd (fun h15 => ?_)
        refine r_iast (pc' := 109) (k := ix (v12 + 1)) hx (hd 58) h13 h15 rfl rfl (fun M14 => ?_)
        refine r_iconst (pc' := 110) (v := 0) hx (hd 59) (by decide) rfl ?_
        refine r_istore_n (pc' := 111) (L' := [(2, .int 0), (1, .int v12), (0, .ref t)]) hx (hd 60) rfl (by decide) rfl rfl ?_
        refine r_sub [2, 1, 0] rfl ?_
        refine r_wl2 (fun v16 M17 => [(0, .ref t), (1, .int v12), (2, .int v16)]) (fun v16 M17 => []) (fun v16 M17 => M17) (fun v16 M17 rec18 ih19 => ?_) fuel 0 M14
        refine r_iload_n (pc' := 112) hx (hd 61) rfl 2 rfl rfl ?_
        refine r_bipush (pc' := 114) (v := 8) hx (hd 62) (by decide) rfl ?_
        refine r_aload_n (pc' := 115) hx (hd 63) rfl 0 rfl rfl ?_
        refine r_get (pc' := 118) (v := .int (mI M17 t 21)) hx (hd 64) fl_12_401 ht rfl (by decide) rfl ?_
        refine r_imul (pc' := 119) hx (hd 65) rfl ?_
        refine r_icmp_ge (tgt := 144) (pc' := 122) hx (hd 66) (by decide) (fun _ => ?_) rfl (fun _ => ?_)
        · skip
          refine r_iconst (pc' := 145) (v := 0) hx (hd 81) (by decide) rfl ?_
          refine r_istore_n (pc' := 146) (L' := [(2, .int 0), (0, .ref t), (1, .int v12)]) hx (hd 82) rfl (by decide) rfl rfl ?_
          refine r_sub [1, 2, 0] rfl ?_
          refine r_wl2 (fun v20 M21 => [(0, .ref t), (1, .int v12), (2, .int v20)]) (fun v20 M21 => []) (fun v20 M21 => M21) (fun v20 M21 rec22 ih23 => ?_) fuel 0 M17
          refine r_iload_n (pc' := 147) hx (hd 83) rfl 2 rfl rfl ?_
          refine r_aload_n (pc' := 148) hx (hd 84) rfl 0 rfl rfl ?_
          refine r_get (pc' := 151) (v := .int (mI M21 t 23)) hx (hd 85) fl_12_307 ht rfl (by decide) rfl ?_
          refine r_icmp_ge (tgt := 200) (pc' := 154) hx (hd 86) (by decide) (fun _ => ?_) rfl (fun _ => ?_)
          · skip
            refine r_aload_n (pc' := 201) hx (hd 119) rfl 0 rfl rfl ?_
            refine r_get (pc' := 204) (v := .ref (t + 2)) hx (hd 120) fl_12_13 ht rfl (by decide) rfl ?_
            have h24 := hL.1 _ _ _ ht 3 2 20 5594 rfl
            refine r_iconst (pc' := 205) (v := 1) hx (hd 121) (by decide) rfl ?_
            refine r_dup2 (pc' := 206) hx (hd 122) rfl rfl rfl ?_
            refine r_iald (pc' := 207) (k := 1) hx (hd 123) h24 (by decide) (by decide) rfl ?_
            refine r_iconst (pc' := 208) (v := 1) hx (hd 124) (by decide) rfl ?_
            refine r_iadd (pc' := 209) hx (hd 125) rfl ?_
            refine r_iast (pc' := 210) (k := 1) hx (hd 126) h24 (by decide) (by decide) rfl (fun M25 => ?_)
            refine r_aload_n (pc' := 211) hx (hd 127) rfl 0 rfl rfl ?_
            refine r_aload_n (pc' := 212) hx (hd 128) rfl 0 rfl rfl ?_
            refine r_get (pc' := 215) (v := .ref (t + 2)) hx (hd 129) fl_12_13 ht rfl (by decide) rfl ?_
            have h26 := hL.1 _ _ _ ht 3 2 20 5594 rfl
            refine r_iconst (pc' := 216) (v := 1) hx (hd 130) (by decide) rfl ?_
            refine r_iald (pc' := 217) (k := 1) hx (hd 131) h26 (by decide) (by decide) rfl ?_
            refine r_iconst (pc' := 218) (v := 1) hx (hd 132) (by decide) rfl ?_
            refine r_isub (pc' := 219) hx (hd 133) rfl ?_
            refine r_callVI (pc' := 222) (As := [.int ((mI M25 (t + 2) 1) - 1)]) (rest := []) hx (hd 134) md_X12_tell mi_X12_tell ms_X12_tell ml_12_197 (cX12_tell (xl x) w hL t ht ((mI M25 (t + 2) 1) - 1) M25) ht rfl (by decide) ⟨Nat.le_of_ble_eq_true rfl, Nat.le_of_ble_eq_true rfl⟩ rfl rfl (Nat.le_of_ble_eq_true rfl) (fun r28 => .int r28 :: []) (fun _ => rfl) rfl (fun r28 M27 => ?_)
            exact r_iret hx (hd 135) rfl rfl hz
          · skip
            refine r_aload_n (pc' := 155) hx (hd 87) rfl 0 rfl rfl ?_
            refine r_get (pc' := 158) (v := .ref (t + 2)) hx (hd 88) fl_12_13 ht rfl (by decide) rfl ?_
            have h29 := hL.1 _ _ _ ht 3 2 20 5594 rfl
            refine r_iload_n (pc' := 159) hx (hd 89) rfl 1 rfl rfl ?_
            refine r_bipush (pc' := 161) (v := 98) hx (hd 90) (by decide) rfl ?_
            refine r_iadd (pc' := 162) hx (hd 91) rfl ?_
            refine r_iconst (pc' := 163) (v := 2) hx (hd 92) (by decide) rfl ?_
            refine r_iload_n (pc' := 164) hx (hd 93) rfl 2 rfl rfl ?_
            refine r_imul (pc' := 165) hx (hd 94) rfl ?_
            refine r_iadd (pc' := 166) hx (hd 95) rfl ?_
            refine r_aload_n (pc' := 167) hx (hd 96) rfl 0 rfl rfl ?_
            refine r_get (pc' := 170) (v := .ref (t + 11)) hx (hd 97) fl_12_45 ht rfl (by decide) rfl ?_
            have h30 := hL.1 _ _ _ ht 24 11 20 400 rfl
            refine r_iload_n (pc' := 171) hx (hd 98) rfl 2 rfl rfl ?_
            refine r_gd (fun h31 => ?_)
            refine r_iald (pc' := 172) (k := ix v20) hx (hd 99) h30 h31 rfl rfl ?_
            refine r_gd (fun h33 => ?_)
            refine r_iast (pc' := 173) (k := ix ((v12 + 98) + (2 * v20))) hx (hd 100) h29 h33 rfl rfl (fun M32 => ?_)
            refine r_aload_n (pc' := 174) hx (hd 101) rfl 0 rfl rfl ?_
            refine r_get (pc' := 177) (v := .ref (t + 2)) hx (hd 102) fl_12_13 ht rfl (by decide) rfl ?_
            have h34 := hL.1 _ _ _ ht 3 2 20 5594 rfl
            refine r_iload_n (pc' := 178) hx (hd 103) rfl 1 rfl rfl ?_
            refine r_bipush (pc' := 180) (v := 98) hx (hd 104) (by decide) rfl ?_
            refine r_iadd (pc' := 181) hx (hd 105) rfl ?_
            refine r_iconst (pc' := 182) (v := 2) hx (hd 106) (by decide) rfl ?_
            refine r_iload_n (pc' := 183) hx (hd 107) rfl 2 rfl rfl ?_
            refine r_imul (pc' := 184) hx (hd 108) rfl ?_
            refine r_iadd (pc' := 185) hx (hd 109) rfl ?_
            refine r_iconst (pc' := 186) (v := 1) hx (hd 110) (by decide) rfl ?_
            refine r_iadd (pc' := 187) hx (hd 111) rfl ?_
            refine r_aload_n (pc' := 188) hx (hd 112) rfl 0 rfl rfl ?_
            refine r_get (pc' := 191) (v := .ref (t + 12)) hx (hd 113) fl_12_48 ht rfl (by decide) rfl ?_
            have h35 := hL.1 _ _ _ ht 25 12 20 400 rfl
            refine r_iload_n (pc' := 192) hx (hd 114) rfl 2 rfl rfl ?_
            refine r_gd (fun h36 => ?_)
            refine r_iald (pc' := 193) (k := ix v20) hx (hd 115) h35 h36 rfl rfl ?_
            refine r_gd (fun h38 => ?_)
            refine r_iast (pc' := 194) (k := ix (((v12 + 98) + (2 * v20)) + 1)) hx (hd 116) h34 h38 rfl rfl (fun M37 => ?_)
            refine r_iinc (pc' := 197) (v := 1) hx (hd 117) 2 rfl (by decide) (by decide) (fun v39 => [(2, .int v39), (0, .ref t), (1, .int v12)]) (fun _ => rfl) rfl (fun v39 => ?_)
            refine r_goto (tgt := 146) hx (hd 118) (by decide) ?_
            refine r_sub [1, 2, 0] rfl ?_
            exact ih23 v39 M37
        · skip
          refine r_aload_n (pc' := 123) hx (hd 67) rfl 0 rfl rfl ?_
          refine r_get (pc' := 126) (v := .ref (t + 2)) hx (hd 68) fl_12_13 ht rfl (by decide) rfl ?_
          have h40 := hL.1 _ _ _ ht 3 2 20 5594 rfl
          refine r_iload_n (pc' := 127) hx (hd 69) rfl 1 rfl rfl ?_
          refine r_iconst (pc' := 128) (v := 2) hx (hd 70) (by decide) rfl ?_
          refine r_iadd (pc' := 129) hx (hd 71) rfl ?_
          refine r_iload_n (pc' := 130) hx (hd 72) rfl 2 rfl rfl ?_
          refine r_iadd (pc' := 131) hx (hd 73) rfl ?_
          refine r_aload_n (pc' := 132) hx (hd 74) rfl 0 rfl rfl ?_
          refine r_get (pc' := 135) (v := .ref (t + 10)) hx (hd 75) fl_12_42 ht rfl (by decide) rfl ?_
          have h41 := hL.1 _ _ _ ht 22 10 20 96 rfl
          refine r_iload_n (pc' := 136) hx (hd 76) rfl 2 rfl rfl ?_
          refine r_gd (fun h42 => ?_)
          refine r_iald (pc' := 137) (k := ix v16) hx (hd 77) h41 h42 rfl rfl ?_
          refine r_gd (fun h44 => ?_)
          refine r_iast (pc' := 138) (k := ix ((v12 + 2) + v16)) hx (hd 78) h40 h44 rfl rfl (fun M43 => ?_)
          refine r_iinc (pc' := 141) (v := 1) hx (hd 79) 2 rfl (by decide) (by decide) (fun v45 => [(2, .int v45), (0, .ref t), (1, .int v12)]) (fun _ => rfl) rfl (fun v45 => ?_)
          refine r_goto (tgt := 111) hx (hd 80) (by decide) ?_
          refine r_sub [1, 2, 0] rfl ?_
          exact ih19 v45 M43
      · skip
        refine r_aload_n (pc' := 76) hx (hd 38) rfl 0 rfl rfl ?_
        refine r_bipush (pc' := 78) (v := (-6)) hx (hd 39) (by decide) rfl ?_
        refine r_callVI (pc' := 81) (As := [.int (-6)]) (rest := []) hx (hd 40) md_X12_tell mi_X12_tell ms_X12_tell ml_12_197 (cX12_tell (xl x) w hL t ht (-6) M10) ht rfl (by decide) ⟨Nat.le_of_ble_eq_true rfl, Nat.le_of_ble_eq_true rfl⟩ rfl rfl (Nat.le_of_ble_eq_true rfl) (fun r47 => .int r47 :: []) (fun _ => rfl) rfl (fun r47 M46 => ?_)
        exact r_iret hx (hd 41) rfl rfl hz
    refine r_if_ne (tgt := 64) (pc' := 44) hx (hd 23) (by decide) (fun _ => ?_) rfl (fun _ => ?_)
    · skip
      exact hj9
    · skip
      refine r_aload_n (pc' := 45) hx (hd 24) rfl 0 rfl rfl ?_
      refine r_bipush (pc' := 47) (v := 59) hx (hd 25) (by decide) rfl ?_
      refine r_callV (pc' := 50) (As := [.int 59]) (rest := []) hx (hd 26) md_X12_isSign mi_X12_isSign ms_X12_isSign ml_12_341 (cX12_isSign (xl x) w hL t ht 59 M5) ht rfl (by decide) ⟨Nat.le_of_ble_eq_true rfl, Nat.le_of_ble_eq_true rfl⟩ rfl rfl (Nat.le_of_ble_eq_true rfl) (fun r48 => .int r48 :: []) (fun _ => M5) (fun _ => ⟨rfl, rfl⟩) rfl (fun r48 _ => ?_)
      refine r_if_eq (tgt := 64) (pc' := 53) hx (hd 27) (by decide) (fun _ => ?_) rfl (fun _ => ?_)
      · skip
        exact hj9
      · skip
        refine r_aload_n (pc' := 54) hx (hd 28) rfl 0 rfl rfl ?_
        refine r_callVU (pc' := 57) (As := []) (rest := []) hx (hd 29) md_X12_next mi_X12_next ms_X12_next ml_12_274 (cX12_next (xl x) w hL t ht M5) ht rfl (by decide) ⟨Nat.le_of_ble_eq_true rfl, Nat.le_of_ble_eq_true rfl⟩ rfl rfl (Nat.le_of_ble_eq_true rfl) rfl (fun M49 => ?_)
        refine r_aload_n (pc' := 58) hx (hd 30) rfl 0 rfl rfl ?_
        refine r_callVU (pc' := 61) (As := []) (rest := []) hx (hd 31) md_X12_readLaw mi_X12_readLaw ms_X12_readLaw ml_12_412 (cX12_readLaw (xl x) w hL t ht M49) ht rfl (by decide) ⟨Nat.le_of_ble_eq_true rfl, Nat.le_of_ble_eq_true rfl⟩ rfl rfl (Nat.le_of_ble_eq_true rfl) rfl (fun M50 => ?_)
        refine r_goto (tgt := 37) hx (hd 32) (by decide) ?_
        exact ih7 M50
  · skip
    refine r_aload_n (pc' := 17) hx (hd 9) rfl 0 rfl rfl ?_
    refine r_iconst (pc' := 18) (v := 0) hx (hd 10) (by decide) rfl ?_
    refine r_putI (pc' := 21) hx (hd 11) fp_12_255 ht rfl (by decide) rfl (fun M51 => ?_)
    refine r_aload_n (pc' := 22) hx (hd 12) rfl 0 rfl rfl ?_
    refine r_bipush (pc' := 24) (v := (-5)) hx (hd 13) (by decide) rfl ?_
    refine r_callVI (pc' := 27) (As := [.int (-5)]) (rest := []) hx (hd 14) md_X12_tell mi_X12_tell ms_X12_tell ml_12_197 (cX12_tell (xl x) w hL t ht (-5) M51) ht rfl (by decide) ⟨Nat.le_of_ble_eq_true rfl, Nat.le_of_ble_eq_true rfl⟩ rfl rfl (Nat.le_of_ble_eq_true rfl) (fun r53 => .int r53 :: []) (fun _ => rfl) rfl (fun r53 M52 => ?_)
    exact r_iret hx (hd 15) rfl rfl hz
abbrev yX12_isLaw : MethodName := ({ cls := "CribbageRoomModel", name := "isLaw", desc := "(I)Z" } : Jvm.MethodName)
def tbX12_isLaw : List (Nat × Instr × Nat) := [(0, .iload_n 1, 1), (1, .iconst (-1), 1), (2, .if_icmp .eq 21, 3), (5, .iload_n 1, 1), (6, .i2l, 1), (7, .lconst 0, 1), (8, .aload_n 0, 1), (9, .getfield 13, 3), (12, .iconst 1, 1), (13, .iaload, 1), (14, .i2l, 1), (15, .lconst 1, 1), (16, .lsub, 1), (17, .invokestatic 208, 3), (20, .ifCond .eq 7, 3), (23, .iconst 1, 1), (24, .goto 4, 3), (27, .iconst 0, 1), (28, .ireturn, 1)]
theorem dX12_isLaw : ∀ q ∈ tbX12_isLaw, decode prog_14_method_59_code q.1 = .ok q.2 := by decide +kernel
set_option maxRecDepth 20000 in
theorem cX12_isLaw (l : Launch) (w : WX) (hL : Lay w) (t : Nat) (ht : Wat w t 12 0) (p1 : Int32) (M : Mem) : Ct l w yX12_isLaw prog_14_method_59_code 2 (Option.some FieldType.boolean) 1 25 evI (emC M) [.ref t, .int p1] M (FX12_isLaw t p1 M) := by
  refine ct_of (by decide) (Nat.le_of_ble_eq_true rfl) (fun x hl hx hb hz => ?_)
  subst hl
  have hd : ∀ i, DAt (xc x).code (tbX12_isLaw[i]?) := fun i => by rw [hb]; exact dat_of dX12_isLaw i
  show C x w (Qn x w evI (emC M)) 2 0 [(0, .ref t), (1, .int p1)] [] M (FX12_isLaw t p1 M)
  unfold FX12_isLaw
  refine r_iload_n (pc' := 1) hx (hd 0) rfl 1 rfl rfl ?_
  refine r_iconst (pc' := 2) (v := (-1)) hx (hd 1) (by decide) rfl ?_
  refine r_jn1 28 (fun v1 => []) (fun v1 => [.int v1]) (fun v1 => M) (fun v1 => ?_) (fun j2 hj3 => ?_)
  · skip
    refine r_gd (fun h4 => ?_)
    exact r_zret hx (hd 18) h4 rfl rfl hz
  refine r_jn0 23 ([]) ([]) (M) (?_) (fun j5 hj6 => ?_)
  · skip
    refine r_iconst (pc' := 24) (v := 1) hx (hd 15) (by decide) rfl ?_
    refine r_goto (tgt := 28) hx (hd 16) (by decide) ?_
    exact hj3 1
  refine r_icmp_eq (tgt := 23) (pc' := 5) hx (hd 2) (by decide) (fun _ => ?_) rfl (fun _ => ?_)
  · skip
    refine r_sub [] rfl ?_
    exact hj6
  · skip
    refine r_iload_n (pc' := 6) hx (hd 3) rfl 1 rfl rfl ?_
    refine r_i2l (pc' := 7) hx (hd 4) rfl ?_
    refine r_lconst (pc' := 8) (v := 0) hx (hd 5) (by decide) rfl ?_
    refine r_aload_n (pc' := 9) hx (hd 6) rfl 0 rfl rfl ?_
    refine r_get (pc' := 12) (v := .ref (t + 2)) hx (hd 7) fl_12_13 ht rfl (by decide) rfl ?_
    have h7 := hL.1 _ _ _ ht 3 2 20 5594 rfl
    refine r_iconst (pc' := 13) (v := 1) hx (hd 8) (by decide) rfl ?_
    refine r_iald (pc' := 14) (k := 1) hx (hd 9) h7 (by decide) (by decide) rfl ?_
    refine r_i2l (pc' := 15) hx (hd 10) rfl ?_
    refine r_lconst (pc' := 16) (v := 1) hx (hd 11) (by decide) rfl ?_
    refine r_lsub (pc' := 17) hx (hd 12) rfl ?_
    refine r_callS (pc' := 20) (As := [.long p1.toInt64, .long 0, .long (((mI M (t + 2) 1).toInt64) - 1)]) (rest := []) hx (hd 13) md_X12_in mst_X12_in ml_12_208 (cX12_in (xl x) w hL (p1.toInt64) 0 (((mI M (t + 2) 1).toInt64) - 1) M) ⟨Nat.le_of_ble_eq_true rfl, Nat.le_of_ble_eq_true rfl⟩ rfl rfl (Nat.le_of_ble_eq_true rfl) (fun r8 => .int r8 :: []) (fun _ => M) (fun _ => ⟨rfl, rfl⟩) rfl (fun r8 _ => ?_)
    refine r_if_eq (tgt := 27) (pc' := 23) hx (hd 14) (by decide) (fun _ => ?_) rfl (fun _ => ?_)
    · skip
      refine r_iconst (pc' := 28) (v := 0) hx (hd 17) (by decide) rfl ?_
      refine r_sub [] rfl ?_
      exact hj3 0
    · skip
      refine r_sub [] rfl ?_
      exact hj6
abbrev yX12_force : MethodName := ({ cls := "CribbageRoomModel", name := "force", desc := "(I)I" } : Jvm.MethodName)
def tbX12_force : List (Nat × Instr × Nat) := [(0, .aload_n 0, 1), (1, .iconst 0, 1), (2, .putfield 188, 3), (5, .aload_n 0, 1), (6, .iload_n 1, 1), (7, .invokevirtual 418, 3), (10, .ifCond .eq 12, 3), (13, .aload_n 0, 1), (14, .iconst 2, 1), (15, .iload_n 1, 1), (16, .invokevirtual 252, 3), (19, .goto 9, 3), (22, .aload_n 0, 1), (23, .bipush (-2), 2), (25, .invokevirtual 197, 3), (28, .ireturn, 1)]
theorem dX12_force : ∀ q ∈ tbX12_force, decode prog_14_method_60_code q.1 = .ok q.2 := by decide +kernel
set_option maxRecDepth 20000 in
theorem cX12_force (l : Launch) (w : WX) (hL : Lay w) (t : Nat) (ht : Wat w t 12 0) (p1 : Int32) (M : Mem) : Ct l w yX12_force prog_14_method_60_code 2 (Option.some FieldType.int) 2 46 evIM emM [.ref t, .int p1] M (FX12_force t p1 M) := by
  refine ct_of (by decide) (Nat.le_of_ble_eq_true rfl) (fun x hl hx hb hz => ?_)
  subst hl
  have hd : ∀ i, DAt (xc x).code (tbX12_force[i]?) := fun i => by rw [hb]; exact dat_of dX12_force i
  show C x w (Qn x w evIM emM) 2 0 [(0, .ref t), (1, .int p1)] [] M (FX12_force t p1 M)
  unfold FX12_force
  refine r_aload_n (pc' := 1) hx (hd 0) rfl 0 rfl rfl ?_
  refine r_iconst (pc' := 2) (v := 0) hx (hd 1) (by decide) rfl ?_
  refine r_putI (pc' := 5) hx (hd 2) fp_12_188 ht rfl (by decide) rfl (fun M1 => ?_)
  refine r_aload_n (pc' := 6) hx (hd 3) rfl 0 rfl rfl ?_
  refine r_iload_n (pc' := 7) hx (hd 4) rfl 1 rfl rfl ?_
  refine r_callV (pc' := 10) (As := [.int p1]) (rest := []) hx (hd 5) md_X12_isLaw mi_X12_isLaw ms_X12_isLaw ml_12_418 (cX12_isLaw (xl x) w hL t ht p1 M1) ht rfl (by decide) ⟨Nat.le_of_ble_eq_true rfl, Nat.le_of_ble_eq_true rfl⟩ rfl rfl (Nat.le_of_ble_eq_true rfl) (fun r2 => .int r2 :: []) (fun _ => M1) (fun _ => ⟨rfl, rfl⟩) rfl (fun r2 _ => ?_)
  refine r_jn2 28 (fun v3 M4 => []) (fun v3 M4 => [.int v3]) (fun v3 M4 => M4) (fun v3 M4 => ?_) (fun j5 hj6 => ?_)
  · skip
    exact r_iret hx (hd 15) rfl rfl hz
  refine r_if_eq (tgt := 22) (pc' := 13) hx (hd 6) (by decide) (fun _ => ?_) rfl (fun _ => ?_)
  · skip
    refine r_aload_n (pc' := 23) hx (hd 12) rfl 0 rfl rfl ?_
    refine r_bipush (pc' := 25) (v := (-2)) hx (hd 13) (by decide) rfl ?_
    refine r_callVI (pc' := 28) (As := [.int (-2)]) (rest := []) hx (hd 14) md_X12_tell mi_X12_tell ms_X12_tell ml_12_197 (cX12_tell (xl x) w hL t ht (-2) M1) ht rfl (by decide) ⟨Nat.le_of_ble_eq_true rfl, Nat.le_of_ble_eq_true rfl⟩ rfl rfl (Nat.le_of_ble_eq_true rfl) (fun r8 => .int r8 :: []) (fun _ => rfl) rfl (fun r8 M7 => ?_)
    refine r_sub [] rfl ?_
    exact hj6 r8 M7
  · skip
    refine r_aload_n (pc' := 14) hx (hd 7) rfl 0 rfl rfl ?_
    refine r_iconst (pc' := 15) (v := 2) hx (hd 8) (by decide) rfl ?_
    refine r_iload_n (pc' := 16) hx (hd 9) rfl 1 rfl rfl ?_
    refine r_callVI (pc' := 19) (As := [.int 2, .int p1]) (rest := []) hx (hd 10) md_X12_change mi_X12_change ms_X12_change ml_12_252 (cX12_change (xl x) w hL t ht 2 p1 M1) ht rfl (by decide) ⟨Nat.le_of_ble_eq_true rfl, Nat.le_of_ble_eq_true rfl⟩ rfl rfl (Nat.le_of_ble_eq_true rfl) (fun r10 => .int r10 :: []) (fun _ => rfl) rfl (fun r10 M9 => ?_)
    refine r_goto (tgt := 28) hx (hd 11) (by decide) ?_
    refine r_sub [] rfl ?_
    exact hj6 r10 M9
abbrev yX12_keepAll : MethodName := ({ cls := "CribbageRoomModel", name := "keepAll", desc := "(I)V" } : Jvm.MethodName)
def tbX12_keepAll : List (Nat × Instr × Nat) := [(0, .iconst 0, 1), (1, .istore_n 2, 1), (2, .iload_n 2, 1), (3, .bipush 122, 2), (5, .if_icmp .ge 29, 3), (8, .aload_n 0, 1), (9, .getfield 23, 3), (12, .bipush 122, 2), (14, .iload_n 1, 1), (15, .imul, 1), (16, .iload_n 2, 1), (17, .iadd, 1), (18, .aload_n 0, 1), (19, .getfield 13, 3), (22, .bipush 8, 2), (24, .iload_n 2, 1), (25, .iadd, 1), (26, .iaload, 1), (27, .iastore, 1), (28, .iinc 2 1, 3), (31, .goto (-29), 3), (34, .return_, 1)]
theorem dX12_keepAll : ∀ q ∈ tbX12_keepAll, decode prog_14_method_9_code q.1 = .ok q.2 := by decide +kernel
set_option maxRecDepth 20000 in
theorem cX12_keepAll (l : Launch) (w : WX) (hL : Lay w) (t : Nat) (ht : Wat w t 12 0) (p1 : Int32) (M : Mem) : Ct l w yX12_keepAll prog_14_method_9_code 3 (Option.none : Option FieldType) 0 0 evU emU [.ref t, .int p1] M (FX12_keepAll t p1 M) := by
  refine ct_of (by decide) (Nat.le_of_ble_eq_true rfl) (fun x hl hx hb hz => ?_)
  subst hl
  have hd : ∀ i, DAt (xc x).code (tbX12_keepAll[i]?) := fun i => by rw [hb]; exact dat_of dX12_keepAll i
  show C x w (Qn x w evU emU) 3 0 [(0, .ref t), (1, .int p1)] [] M (FX12_keepAll t p1 M)
  unfold FX12_keepAll
  refine r_iconst (pc' := 1) (v := 0) hx (hd 0) (by decide) rfl ?_
  refine r_istore_n (pc' := 2) (L' := [(2, .int 0), (0, .ref t), (1, .int p1)]) hx (hd 1) rfl (by decide) rfl rfl ?_
  refine r_sub [1, 2, 0] rfl ?_
  refine r_wl2 (fun v1 M2 => [(0, .ref t), (1, .int p1), (2, .int v1)]) (fun v1 M2 => []) (fun v1 M2 => M2) (fun v1 M2 rec3 ih4 => ?_) fuel 0 M
  refine r_iload_n (pc' := 3) hx (hd 2) rfl 2 rfl rfl ?_
  refine r_bipush (pc' := 5) (v := 122) hx (hd 3) (by decide) rfl ?_
  refine r_icmp_ge (tgt := 34) (pc' := 8) hx (hd 4) (by decide) (fun _ => ?_) rfl (fun _ => ?_)
  · skip
    exact r_vret hx (hd 21) rfl rfl hz
  · skip
    refine r_aload_n (pc' := 9) hx (hd 5) rfl 0 rfl rfl ?_
    refine r_get (pc' := 12) (v := .ref (t + 5)) hx (hd 6) fl_12_23 ht rfl (by decide) rfl ?_
    have h5 := hL.1 _ _ _ ht 6 5 20 2196 rfl
    refine r_bipush (pc' := 14) (v := 122) hx (hd 7) (by decide) rfl ?_
    refine r_iload_n (pc' := 15) hx (hd 8) rfl 1 rfl rfl ?_
    refine r_imul (pc' := 16) hx (hd 9) rfl ?_
    refine r_iload_n (pc' := 17) hx (hd 10) rfl 2 rfl rfl ?_
    refine r_iadd (pc' := 18) hx (hd 11) rfl ?_
    refine r_aload_n (pc' := 19) hx (hd 12) rfl 0 rfl rfl ?_
    refine r_get (pc' := 22) (v := .ref (t + 2)) hx (hd 13) fl_12_13 ht rfl (by decide) rfl ?_
    have h6 := hL.1 _ _ _ ht 3 2 20 5594 rfl
    refine r_bipush (pc' := 24) (v := 8) hx (hd 14) (by decide) rfl ?_
    refine r_iload_n (pc' := 25) hx (hd 15) rfl 2 rfl rfl ?_
    refine r_iadd (pc' := 26) hx (hd 16) rfl ?_
    refine r_gd (fun h7 => ?_)
    refine r_iald (pc' := 27) (k := ix (8 + v1)) hx (hd 17) h6 h7 rfl rfl ?_
    refine r_gd (fun h9 => ?_)
    refine r_iast (pc' := 28) (k := ix ((122 * p1) + v1)) hx (hd 18) h5 h9 rfl rfl (fun M8 => ?_)
    refine r_iinc (pc' := 31) (v := 1) hx (hd 19) 2 rfl (by decide) (by decide) (fun v10 => [(2, .int v10), (0, .ref t), (1, .int p1)]) (fun _ => rfl) rfl (fun v10 => ?_)
    refine r_goto (tgt := 2) hx (hd 20) (by decide) ?_
    refine r_sub [1, 2, 0] rfl ?_
    exact ih4 v10 M8
abbrev yX12_remember : MethodName := ({ cls := "CribbageRoomModel", name := "remember", desc := "(I)V" } : Jvm.MethodName)
def tbX12_remember : List (Nat × Instr × Nat) := [(0, .aload_n 0, 1), (1, .getfield 194, 3), (4, .bipush 16, 2), (6, .if_icmp .ne 71, 3), (9, .iconst 0, 1), (10, .istore_n 2, 1), (11, .iload_n 2, 1), (12, .sipush 1830, 3), (15, .if_icmp .ge 24, 3), (18, .aload_n 0, 1), (19, .getfield 23, 3), (22, .iload_n 2, 1), (23, .aload_n 0, 1), (24, .getfield 23, 3), (27, .iload_n 2, 1), (28, .bipush 122, 2), (30, .iadd, 1), (31, .iaload, 1), (32, .iastore, 1), (33, .iinc 2 1, 3), (36, .goto (-25), 3), (39, .iconst 0, 1), (40, .istore_n 2, 1), (41, .iload_n 2, 1), (42, .bipush 15, 2), (44, .if_icmp .ge 23, 3), (47, .aload_n 0, 1), (48, .getfield 26, 3), (51, .iload_n 2, 1), (52, .aload_n 0, 1), (53, .getfield 26, 3), (56, .iload_n 2, 1), (57, .iconst 1, 1), (58, .iadd, 1), (59, .iaload, 1), (60, .iastore, 1), (61, .iinc 2 1, 3), (64, .goto (-23), 3), (67, .aload_n 0, 1), (68, .dup, 1), (69, .getfield 194, 3), (72, .iconst 1, 1), (73, .isub, 1), (74, .putfield 194, 3), (77, .aload_n 0, 1), (78, .aload_n 0, 1), (79, .getfield 194, 3), (82, .invokevirtual 201, 3), (85, .aload_n 0, 1), (86, .getfield 26, 3), (89, .aload_n 0, 1), (90, .getfield 194, 3), (93, .iload_n 1, 1), (94, .iastore, 1), (95, .aload_n 0, 1), (96, .dup, 1), (97, .getfield 194, 3), (100, .iconst 1, 1), (101, .iadd, 1), (102, .putfield 194, 3), (105, .return_, 1)]
theorem dX12_remember : ∀ q ∈ tbX12_remember, decode prog_14_method_11_code q.1 = .ok q.2 := by decide +kernel
set_option maxRecDepth 20000 in
theorem cX12_remember (l : Launch) (w : WX) (hL : Lay w) (t : Nat) (ht : Wat w t 12 0) (p1 : Int32) (M : Mem) : Ct l w yX12_remember prog_14_method_11_code 3 (Option.none : Option FieldType) 1 22 evU emU [.ref t, .int p1] M (FX12_remember t p1 M) := by
  refine ct_of (by decide) (Nat.le_of_ble_eq_true rfl) (fun x hl hx hb hz => ?_)
  subst hl
  have hd : ∀ i, DAt (xc x).code (tbX12_remember[i]?) := fun i => by rw [hb]; exact dat_of dX12_remember i
  show C x w (Qn x w evU emU) 3 0 [(0, .ref t), (1, .int p1)] [] M (FX12_remember t p1 M)
  unfold FX12_remember
  refine r_aload_n (pc' := 1) hx (hd 0) rfl 0 rfl rfl ?_
  refine r_get (pc' := 4) (v := .int (mI M t 8)) hx (hd 1) fl_12_194 ht rfl (by decide) rfl ?_
  refine r_bipush (pc' := 6) (v := 16) hx (hd 2) (by decide) rfl ?_
  refine r_jn1 77 (fun M1 => [(0, .ref t), (1, .int p1)]) (fun M1 => []) (fun M1 => M1) (fun M1 => ?_) (fun j2 hj3 => ?_)
  · skip
    refine r_aload_n (pc' := 78) hx (hd 44) rfl 0 rfl rfl ?_
    refine r_aload_n (pc' := 79) hx (hd 45) rfl 0 rfl rfl ?_
    refine r_get (pc' := 82) (v := .int (mI M1 t 8)) hx (hd 46) fl_12_194 ht rfl (by decide) rfl ?_
    refine r_callVU (pc' := 85) (As := [.int (mI M1 t 8)]) (rest := []) hx (hd 47) md_X12_keepAll mi_X12_keepAll ms_X12_keepAll ml_12_201 (cX12_keepAll (xl x) w hL t ht (mI M1 t 8) M1) ht rfl (by decide) ⟨Nat.le_of_ble_eq_true rfl, Nat.le_of_ble_eq_true rfl⟩ rfl rfl (Nat.le_of_ble_eq_true rfl) rfl (fun M4 => ?_)
    refine r_aload_n (pc' := 86) hx (hd 48) rfl 0 rfl rfl ?_
    refine r_get (pc' := 89) (v := .ref (t + 6)) hx (hd 49) fl_12_26 ht rfl (by decide) rfl ?_
    have h5 := hL.1 _ _ _ ht 7 6 20 16 rfl
    refine r_aload_n (pc' := 90) hx (hd 50) rfl 0 rfl rfl ?_
    refine r_get (pc' := 93) (v := .int (mI M4 t 8)) hx (hd 51) fl_12_194 ht rfl (by decide) rfl ?_
    refine r_iload_n (pc' := 94) hx (hd 52) rfl 1 rfl rfl ?_
    refine r_gd (fun h7 => ?_)
    refine r_iast (pc' := 95) (k := ix (mI M4 t 8)) hx (hd 53) h5 h7 rfl rfl (fun M6 => ?_)
    refine r_aload_n (pc' := 96) hx (hd 54) rfl 0 rfl rfl ?_
    refine r_dup (pc' := 97) hx (hd 55) rfl rfl ?_
    refine r_get (pc' := 100) (v := .int (mI M6 t 8)) hx (hd 56) fl_12_194 ht rfl (by decide) rfl ?_
    refine r_iconst (pc' := 101) (v := 1) hx (hd 57) (by decide) rfl ?_
    refine r_iadd (pc' := 102) hx (hd 58) rfl ?_
    refine r_putI (pc' := 105) hx (hd 59) fp_12_194 ht rfl (by decide) rfl (fun M8 => ?_)
    exact r_vret hx (hd 60) rfl rfl hz
  refine r_icmp_ne (tgt := 77) (pc' := 9) hx (hd 3) (by decide) (fun _ => ?_) rfl (fun _ => ?_)
  · skip
    exact hj3 M
  · skip
    refine r_iconst (pc' := 10) (v := 0) hx (hd 4) (by decide) rfl ?_
    refine r_istore_n (pc' := 11) (L' := [(2, .int 0), (0, .ref t), (1, .int p1)]) hx (hd 5) rfl (by decide) rfl rfl ?_
    refine r_sub [1, 2, 0] rfl ?_
    refine r_wl2 (fun v9 M10 => [(0, .ref t), (1, .int p1), (2, .int v9)]) (fun v9 M10 => []) (fun v9 M10 => M10) (fun v9 M10 rec11 ih12 => ?_) fuel 0 M
    refine r_iload_n (pc' := 12) hx (hd 6) rfl 2 rfl rfl ?_
    refine r_sipush (pc' := 15) (v := 1830) hx (hd 7) (by decide) rfl ?_
    refine r_icmp_ge (tgt := 39) (pc' := 18) hx (hd 8) (by decide) (fun _ => ?_) rfl (fun _ => ?_)
    · skip
      refine r_iconst (pc' := 40) (v := 0) hx (hd 21) (by decide) rfl ?_
      refine r_istore_n (pc' := 41) (L' := [(2, .int 0), (0, .ref t), (1, .int p1)]) hx (hd 22) rfl (by decide) rfl rfl ?_
      refine r_sub [1, 2, 0] rfl ?_
      refine r_wl2 (fun v13 M14 => [(0, .ref t), (1, .int p1), (2, .int v13)]) (fun v13 M14 => []) (fun v13 M14 => M14) (fun v13 M14 rec15 ih16 => ?_) fuel 0 M10
      refine r_iload_n (pc' := 42) hx (hd 23) rfl 2 rfl rfl ?_
      refine r_bipush (pc' := 44) (v := 15) hx (hd 24) (by decide) rfl ?_
      refine r_icmp_ge (tgt := 67) (pc' := 47) hx (hd 25) (by decide) (fun _ => ?_) rfl (fun _ => ?_)
      · skip
        refine r_aload_n (pc' := 68) hx (hd 38) rfl 0 rfl rfl ?_
        refine r_dup (pc' := 69) hx (hd 39) rfl rfl ?_
        refine r_get (pc' := 72) (v := .int (mI M14 t 8)) hx (hd 40) fl_12_194 ht rfl (by decide) rfl ?_
        refine r_iconst (pc' := 73) (v := 1) hx (hd 41) (by decide) rfl ?_
        refine r_isub (pc' := 74) hx (hd 42) rfl ?_
        refine r_putI (pc' := 77) hx (hd 43) fp_12_194 ht rfl (by decide) rfl (fun M17 => ?_)
        refine r_sub [0, 1] rfl ?_
        exact hj3 M17
      · skip
        refine r_aload_n (pc' := 48) hx (hd 26) rfl 0 rfl rfl ?_
        refine r_get (pc' := 51) (v := .ref (t + 6)) hx (hd 27) fl_12_26 ht rfl (by decide) rfl ?_
        have h18 := hL.1 _ _ _ ht 7 6 20 16 rfl
        refine r_iload_n (pc' := 52) hx (hd 28) rfl 2 rfl rfl ?_
        refine r_aload_n (pc' := 53) hx (hd 29) rfl 0 rfl rfl ?_
        refine r_get (pc' := 56) (v := .ref (t + 6)) hx (hd 30) fl_12_26 ht rfl (by decide) rfl ?_
        have h19 := hL.1 _ _ _ ht 7 6 20 16 rfl
        refine r_iload_n (pc' := 57) hx (hd 31) rfl 2 rfl rfl ?_
        refine r_iconst (pc' := 58) (v := 1) hx (hd 32) (by decide) rfl ?_
        refine r_iadd (pc' := 59) hx (hd 33) rfl ?_
        refine r_gd (fun h20 => ?_)
        refine r_iald (pc' := 60) (k := ix (v13 + 1)) hx (hd 34) h19 h20 rfl rfl ?_
        refine r_gd (fun h22 => ?_)
        refine r_iast (pc' := 61) (k := ix v13) hx (hd 35) h18 h22 rfl rfl (fun M21 => ?_)
        refine r_iinc (pc' := 64) (v := 1) hx (hd 36) 2 rfl (by decide) (by decide) (fun v23 => [(2, .int v23), (0, .ref t), (1, .int p1)]) (fun _ => rfl) rfl (fun v23 => ?_)
        refine r_goto (tgt := 41) hx (hd 37) (by decide) ?_
        refine r_sub [1, 2, 0] rfl ?_
        exact ih16 v23 M21
    · skip
      refine r_aload_n (pc' := 19) hx (hd 9) rfl 0 rfl rfl ?_
      refine r_get (pc' := 22) (v := .ref (t + 5)) hx (hd 10) fl_12_23 ht rfl (by decide) rfl ?_
      have h24 := hL.1 _ _ _ ht 6 5 20 2196 rfl
      refine r_iload_n (pc' := 23) hx (hd 11) rfl 2 rfl rfl ?_
      refine r_aload_n (pc' := 24) hx (hd 12) rfl 0 rfl rfl ?_
      refine r_get (pc' := 27) (v := .ref (t + 5)) hx (hd 13) fl_12_23 ht rfl (by decide) rfl ?_
      have h25 := hL.1 _ _ _ ht 6 5 20 2196 rfl
      refine r_iload_n (pc' := 28) hx (hd 14) rfl 2 rfl rfl ?_
      refine r_bipush (pc' := 30) (v := 122) hx (hd 15) (by decide) rfl ?_
      refine r_iadd (pc' := 31) hx (hd 16) rfl ?_
      refine r_gd (fun h26 => ?_)
      refine r_iald (pc' := 32) (k := ix (v9 + 122)) hx (hd 17) h25 h26 rfl rfl ?_
      refine r_gd (fun h28 => ?_)
      refine r_iast (pc' := 33) (k := ix v9) hx (hd 18) h24 h28 rfl rfl (fun M27 => ?_)
      refine r_iinc (pc' := 36) (v := 1) hx (hd 19) 2 rfl (by decide) (by decide) (fun v29 => [(2, .int v29), (0, .ref t), (1, .int p1)]) (fun _ => rfl) rfl (fun v29 => ?_)
      refine r_goto (tgt := 11) hx (hd 20) (by decide) ?_
      refine r_sub [1, 2, 0] rfl ?_
      exact ih12 v29 M27
abbrev yX12_draw : MethodName := ({ cls := "CribbageRoomModel", name := "draw", desc := "(I)I" } : Jvm.MethodName)
def tbX12_draw : List (Nat × Instr × Nat) := [(0, .aload_n 0, 1), (1, .aload_n 0, 1), (2, .getfield 487, 3), (5, .ldc2_w 490, 3), (8, .lmul, 1), (9, .ldc2_w 170, 3), (12, .ladd, 1), (13, .ldc2_w 492, 3), (16, .lrem, 1), (17, .putfield 487, 3), (20, .aload_n 0, 1), (21, .getfield 487, 3), (24, .iload_n 1, 1), (25, .i2l, 1), (26, .lrem, 1), (27, .l2i, 1), (28, .ireturn, 1)]
theorem dX12_draw : ∀ q ∈ tbX12_draw, decode prog_14_method_76_code q.1 = .ok q.2 := by decide +kernel
set_option maxRecDepth 20000 in
theorem cX12_draw (l : Launch) (w : WX) (hL : Lay w) (t : Nat) (ht : Wat w t 12 0) (p1 : Int32) (M : Mem) : Ct l w yX12_draw prog_14_method_76_code 2 (Option.some FieldType.int) 0 0 evIM emM [.ref t, .int p1] M (FX12_draw t p1 M) := by
  refine ct_of (by decide) (Nat.le_of_ble_eq_true rfl) (fun x hl hx hb hz => ?_)
  subst hl
  have hd : ∀ i, DAt (xc x).code (tbX12_draw[i]?) := fun i => by rw [hb]; exact dat_of dX12_draw i
  show C x w (Qn x w evIM emM) 2 0 [(0, .ref t), (1, .int p1)] [] M (FX12_draw t p1 M)
  unfold FX12_draw
  refine r_aload_n (pc' := 1) hx (hd 0) rfl 0 rfl rfl ?_
  refine r_aload_n (pc' := 2) hx (hd 1) rfl 0 rfl rfl ?_
  refine r_get (pc' := 5) (v := .long (mJ M t 50)) hx (hd 2) fl_12_487 ht rfl (by decide) rfl ?_
  refine r_ldc2 (pc' := 8) hx (hd 3) kc_12_490 rfl ?_
  refine r_lmul (pc' := 9) hx (hd 4) rfl ?_
  refine r_ldc2 (pc' := 12) hx (hd 5) kc_12_170 rfl ?_
  refine r_ladd (pc' := 13) hx (hd 6) rfl ?_
  refine r_ldc2 (pc' := 16) hx (hd 7) kc_12_492 rfl ?_
  refine r_lrem (pc' := 17) hx (hd 8) (by decide) rfl ?_
  refine r_putJ (pc' := 20) hx (hd 9) fp_12_487 ht rfl (by decide) rfl (fun M1 => ?_)
  refine r_aload_n (pc' := 21) hx (hd 10) rfl 0 rfl rfl ?_
  refine r_get (pc' := 24) (v := .long (mJ M1 t 50)) hx (hd 11) fl_12_487 ht rfl (by decide) rfl ?_
  refine r_iload_n (pc' := 25) hx (hd 12) rfl 1 rfl rfl ?_
  refine r_i2l (pc' := 26) hx (hd 13) rfl ?_
  refine r_gd (fun h2 => ?_)
  refine r_lrem (pc' := 27) hx (hd 14) (gd_neL h2) rfl ?_
  refine r_l2i (pc' := 28) hx (hd 15) rfl ?_
  exact r_iret hx (hd 16) rfl rfl hz
abbrev yX12_takeCard : MethodName := ({ cls := "CribbageRoomModel", name := "takeCard", desc := "(I)I" } : Jvm.MethodName)
def tbX12_takeCard : List (Nat × Instr × Nat) := [(0, .aload_n 0, 1), (1, .iload_n 1, 1), (2, .invokevirtual 494, 3), (5, .istore_n 2, 1), (6, .aload_n 0, 1), (7, .getfield 143, 3), (10, .iload_n 2, 1), (11, .iaload, 1), (12, .istore_n 3, 1), (13, .iload_n 2, 1), (14, .istore 4, 2), (16, .iload 4, 2), (18, .iload_n 1, 1), (19, .iconst 1, 1), (20, .isub, 1), (21, .if_icmp .ge 25, 3), (24, .aload_n 0, 1), (25, .getfield 143, 3), (28, .iload 4, 2), (30, .aload_n 0, 1), (31, .getfield 143, 3), (34, .iload 4, 2), (36, .iconst 1, 1), (37, .iadd, 1), (38, .iaload, 1), (39, .iastore, 1), (40, .iinc 4 1, 3), (43, .goto (-27), 3), (46, .iload_n 3, 1), (47, .ireturn, 1)]
theorem dX12_takeCard : ∀ q ∈ tbX12_takeCard, decode prog_14_method_77_code q.1 = .ok q.2 := by decide +kernel
set_option maxRecDepth 20000 in
theorem cX12_takeCard (l : Launch) (w : WX) (hL : Lay w) (t : Nat) (ht : Wat w t 12 0) (p1 : Int32) (M : Mem) : Ct l w yX12_takeCard prog_14_method_77_code 5 (Option.some FieldType.int) 1 21 evIM emM [.ref t, .int p1] M (FX12_takeCard t p1 M) := by
  refine ct_of (by decide) (Nat.le_of_ble_eq_true rfl) (fun x hl hx hb hz => ?_)
  subst hl
  have hd : ∀ i, DAt (xc x).code (tbX12_takeCard[i]?) := fun i => by rw [hb]; exact dat_of dX12_takeCard i
  show C x w (Qn x w evIM emM) 5 0 [(0, .ref t), (1, .int p1)] [] M (FX12_takeCard t p1 M)
  unfold FX12_takeCard
  refine r_aload_n (pc' := 1) hx (hd 0) rfl 0 rfl rfl ?_
  refine r_iload_n (pc' := 2) hx (hd 1) rfl 1 rfl rfl ?_
  refine r_callVI (pc' := 5) (As := [.int p1]) (rest := []) hx (hd 2) md_X12_draw mi_X12_draw ms_X12_draw ml_12_494 (cX12_draw (xl x) w hL t ht p1 M) ht rfl (by decide) ⟨Nat.le_of_ble_eq_true rfl, Nat.le_of_ble_eq_true rfl⟩ rfl rfl (Nat.le_of_ble_eq_true rfl) (fun r2 => .int r2 :: []) (fun _ => rfl) rfl (fun r2 M1 => ?_)
  refine r_istore_n (pc' := 6) (L' := [(2, .int r2), (0, .ref t), (1, .int p1)]) hx (hd 3) rfl (by decide) rfl rfl ?_
  refine r_aload_n (pc' := 7) hx (hd 4) rfl 1 rfl rfl ?_
  refine r_get (pc' := 10) (v := .ref (t + 30)) hx (hd 5) fl_12_143 ht rfl (by decide) rfl ?_
  have h3 := hL.1 _ _ _ ht 51 30 20 52 rfl
  refine r_iload_n (pc' := 11) hx (hd 6) rfl 0 rfl rfl ?_
  refine r_gd (fun h4 => ?_)
  refine r_iald (pc' := 12) (k := ix r2) hx (hd 7) h3 h4 rfl rfl ?_
  refine r_nmI (fun v5 => ?_)
  refine r_istore_n (pc' := 13) (L' := [(3, .int v5), (2, .int r2), (0, .ref t), (1, .int p1)]) hx (hd 8) rfl (by decide) rfl rfl ?_
  refine r_iload_n (pc' := 14) hx (hd 9) rfl 1 rfl rfl ?_
  refine r_istore (pc' := 16) (L' := [(4, .int r2), (3, .int v5), (2, .int r2), (0, .ref t), (1, .int p1)]) hx (hd 10) (by decide) rfl rfl ?_
  refine r_sub [3, 4, 1, 0] rfl ?_
  refine r_wl2 (fun v6 M7 => [(0, .ref t), (1, .int p1), (3, .int v5), (4, .int v6)]) (fun v6 M7 => []) (fun v6 M7 => M7) (fun v6 M7 rec8 ih9 => ?_) fuel r2 M1
  refine r_iload (pc' := 18) hx (hd 11) 3 rfl rfl ?_
  refine r_iload_n (pc' := 19) hx (hd 12) rfl 1 rfl rfl ?_
  refine r_iconst (pc' := 20) (v := 1) hx (hd 13) (by decide) rfl ?_
  refine r_isub (pc' := 21) hx (hd 14) rfl ?_
  refine r_icmp_ge (tgt := 46) (pc' := 24) hx (hd 15) (by decide) (fun _ => ?_) rfl (fun _ => ?_)
  · skip
    refine r_iload_n (pc' := 47) hx (hd 28) rfl 2 rfl rfl ?_
    exact r_iret hx (hd 29) rfl rfl hz
  · skip
    refine r_aload_n (pc' := 25) hx (hd 16) rfl 0 rfl rfl ?_
    refine r_get (pc' := 28) (v := .ref (t + 30)) hx (hd 17) fl_12_143 ht rfl (by decide) rfl ?_
    have h10 := hL.1 _ _ _ ht 51 30 20 52 rfl
    refine r_iload (pc' := 30) hx (hd 18) 3 rfl rfl ?_
    refine r_aload_n (pc' := 31) hx (hd 19) rfl 0 rfl rfl ?_
    refine r_get (pc' := 34) (v := .ref (t + 30)) hx (hd 20) fl_12_143 ht rfl (by decide) rfl ?_
    have h11 := hL.1 _ _ _ ht 51 30 20 52 rfl
    refine r_iload (pc' := 36) hx (hd 21) 3 rfl rfl ?_
    refine r_iconst (pc' := 37) (v := 1) hx (hd 22) (by decide) rfl ?_
    refine r_iadd (pc' := 38) hx (hd 23) rfl ?_
    refine r_gd (fun h12 => ?_)
    refine r_iald (pc' := 39) (k := ix (v6 + 1)) hx (hd 24) h11 h12 rfl rfl ?_
    refine r_gd (fun h14 => ?_)
    refine r_iast (pc' := 40) (k := ix v6) hx (hd 25) h10 h14 rfl rfl (fun M13 => ?_)
    refine r_iinc (pc' := 43) (v := 1) hx (hd 26) 3 rfl (by decide) (by decide) (fun v15 => [(4, .int v15), (0, .ref t), (1, .int p1), (3, .int v5)]) (fun _ => rfl) rfl (fun v15 => ?_)
    refine r_goto (tgt := 16) hx (hd 27) (by decide) ?_
    refine r_sub [1, 2, 3, 0] rfl ?_
    exact ih9 v15 M13
abbrev yX12_dealIt : MethodName := ({ cls := "CribbageRoomModel", name := "dealIt", desc := "()V" } : Jvm.MethodName)
def tbX12_dealIt : List (Nat × Instr × Nat) := [(0, .iconst 0, 1), (1, .istore_n 1, 1), (2, .iload_n 1, 1), (3, .bipush 52, 2), (5, .if_icmp .ge 36, 3), (8, .aload_n 0, 1), (9, .getfield 143, 3), (12, .iload_n 1, 1), (13, .iload_n 1, 1), (14, .iastore, 1), (15, .aload_n 0, 1), (16, .getfield 13, 3), (19, .bipush 18, 2), (21, .iload_n 1, 1), (22, .iadd, 1), (23, .iconst (-1), 1), (24, .iastore, 1), (25, .aload_n 0, 1), (26, .getfield 13, 3), (29, .bipush 70, 2), (31, .iload_n 1, 1), (32, .iadd, 1), (33, .iconst 0, 1), (34, .iastore, 1), (35, .iinc 1 1, 3), (38, .goto (-36), 3), (41, .aload_n 0, 1), (42, .getfield 13, 3), (45, .bipush 10, 2), (47, .iconst 1, 1), (48, .aload_n 0, 1), (49, .getfield 13, 3), (52, .bipush 10, 2), (54, .iaload, 1), (55, .isub, 1), (56, .iastore, 1), (57, .iconst 0, 1), (58, .istore_n 1, 1), (59, .iload_n 1, 1), (60, .bipush 12, 2), (62, .if_icmp .ge 52, 3), (65, .aload_n 0, 1), (66, .bipush 52, 2), (68, .iload_n 1, 1), (69, .isub, 1), (70, .invokevirtual 497, 3), (73, .istore_n 2, 1), (74, .aload_n 0, 1), (75, .getfield 13, 3), (78, .bipush 18, 2), (80, .iload_n 2, 1), (81, .iadd, 1), (82, .iload_n 1, 1), (83, .iconst 2, 1), (84, .irem, 1), (85, .ifCond .ne 15, 3), (88, .iconst 1, 1), (89, .aload_n 0, 1), (90, .getfield 13, 3), (93, .bipush 10, 2), (95, .iaload, 1), (96, .isub, 1), (97, .goto 10, 3), (100, .aload_n 0, 1), (101, .getfield 13, 3), (104, .bipush 10, 2), (106, .iaload, 1), (107, .iastore, 1), (108, .iinc 1 1, 3), (111, .goto (-52), 3), (114, .aload_n 0, 1), (115, .getfield 13, 3), (118, .bipush 11, 2), (120, .aload_n 0, 1), (121, .bipush 40, 2), (123, .invokevirtual 497, 3), (126, .iastore, 1), (127, .aload_n 0, 1), (128, .getfield 13, 3), (131, .bipush 18, 2), (133, .aload_n 0, 1), (134, .getfield 13, 3), (137, .bipush 11, 2), (139, .iaload, 1), (140, .iadd, 1), (141, .iconst 3, 1), (142, .iastore, 1), (143, .aload_n 0, 1), (144, .getfield 13, 3), (147, .bipush 9, 2), (149, .iconst 1, 1), (150, .iastore, 1), (151, .aload_n 0, 1), (152, .getfield 13, 3), (155, .bipush 12, 2), (157, .iconst 0, 1), (158, .iastore, 1), (159, .aload_n 0, 1), (160, .getfield 13, 3), (163, .bipush 13, 2), (165, .iconst 0, 1), (166, .iastore, 1), (167, .aload_n 0, 1), (168, .getfield 13, 3), (171, .bipush 14, 2), (173, .iconst (-1), 1), (174, .iastore, 1), (175, .aload_n 0, 1), (176, .getfield 13, 3), (179, .bipush 15, 2), (181, .iconst (-1), 1), (182, .iastore, 1), (183, .aload_n 0, 1), (184, .getfield 13, 3), (187, .bipush 8, 2), (189, .dup2, 1), (190, .iaload, 1), (191, .iconst 1, 1), (192, .iadd, 1), (193, .iastore, 1), (194, .return_, 1)]
theorem dX12_dealIt : ∀ q ∈ tbX12_dealIt, decode prog_14_method_78_code q.1 = .ok q.2 := by decide +kernel
set_option maxRecDepth 20000 in
theorem cX12_dealIt (l : Launch) (w : WX) (hL : Lay w) (t : Nat) (ht : Wat w t 12 0) (M : Mem) : Ct l w yX12_dealIt prog_14_method_78_code 3 (Option.none : Option FieldType) 2 45 evU emU [.ref t] M (FX12_dealIt t M) := by
  refine ct_of (by decide) (Nat.le_of_ble_eq_true rfl) (fun x hl hx hb hz => ?_)
  subst hl
  have hd : ∀ i, DAt (xc x).code (tbX12_dealIt[i]?) := fun i => by rw [hb]; exact dat_of dX12_dealIt i
  show C x w (Qn x w evU emU) 3 0 [(0, .ref t)] [] M (FX12_dealIt t M)
  unfold FX12_dealIt
  refine r_iconst (pc' := 1) (v := 0) hx (hd 0) (by decide) rfl ?_
  refine r_istore_n (pc' := 2) (L' := [(1, .int 0), (0, .ref t)]) hx (hd 1) rfl (by decide) rfl rfl ?_
  refine r_sub [1, 0] rfl ?_
  refine r_wl2 (fun v1 M2 => [(0, .ref t), (1, .int v1)]) (fun v1 M2 => []) (fun v1 M2 => M2) (fun v1 M2 rec3 ih4 => ?_) fuel 0 M
  refine r_iload_n (pc' := 3) hx (hd 2) rfl 1 rfl rfl ?_
  refine r_bipush (pc' := 5) (v := 52) hx (hd 3) (by decide) rfl ?_
  refine r_icmp_ge (tgt := 41) (pc' := 8) hx (hd 4) (by decide) (fun _ => ?_) rfl (fun _ => ?_)
  · skip
    refine r_aload_n (pc' := 42) hx (hd 26) rfl 0 rfl rfl ?_
    refine r_get (pc' := 45) (v := .ref (t + 2)) hx (hd 27) fl_12_13 ht rfl (by decide) rfl ?_
    have h5 := hL.1 _ _ _ ht 3 2 20 5594 rfl
    refine r_bipush (pc' := 47) (v := 10) hx (hd 28) (by decide) rfl ?_
    refine r_iconst (pc' := 48) (v := 1) hx (hd 29) (by decide) rfl ?_
    refine r_aload_n (pc' := 49) hx (hd 30) rfl 0 rfl rfl ?_
    refine r_get (pc' := 52) (v := .ref (t + 2)) hx (hd 31) fl_12_13 ht rfl (by decide) rfl ?_
    have h6 := hL.1 _ _ _ ht 3 2 20 5594 rfl
    refine r_bipush (pc' := 54) (v := 10) hx (hd 32) (by decide) rfl ?_
    refine r_iald (pc' := 55) (k := 10) hx (hd 33) h6 (by decide) (by decide) rfl ?_
    refine r_isub (pc' := 56) hx (hd 34) rfl ?_
    refine r_iast (pc' := 57) (k := 10) hx (hd 35) h5 (by decide) (by decide) rfl (fun M7 => ?_)
    refine r_iconst (pc' := 58) (v := 0) hx (hd 36) (by decide) rfl ?_
    refine r_istore_n (pc' := 59) (L' := [(1, .int 0), (0, .ref t)]) hx (hd 37) rfl (by decide) rfl rfl ?_
    refine r_sub [1, 0] rfl ?_
    refine r_wl2 (fun v8 M9 => [(0, .ref t), (1, .int v8)]) (fun v8 M9 => []) (fun v8 M9 => M9) (fun v8 M9 rec10 ih11 => ?_) fuel 0 M7
    refine r_iload_n (pc' := 60) hx (hd 38) rfl 1 rfl rfl ?_
    refine r_bipush (pc' := 62) (v := 12) hx (hd 39) (by decide) rfl ?_
    refine r_icmp_ge (tgt := 114) (pc' := 65) hx (hd 40) (by decide) (fun _ => ?_) rfl (fun _ => ?_)
    · skip
      refine r_aload_n (pc' := 115) hx (hd 70) rfl 0 rfl rfl ?_
      refine r_get (pc' := 118) (v := .ref (t + 2)) hx (hd 71) fl_12_13 ht rfl (by decide) rfl ?_
      have h12 := hL.1 _ _ _ ht 3 2 20 5594 rfl
      refine r_bipush (pc' := 120) (v := 11) hx (hd 72) (by decide) rfl ?_
      refine r_aload_n (pc' := 121) hx (hd 73) rfl 0 rfl rfl ?_
      refine r_bipush (pc' := 123) (v := 40) hx (hd 74) (by decide) rfl ?_
      refine r_callVI (pc' := 126) (As := [.int 40]) (rest := [.int 11, .ref (t + 2)]) hx (hd 75) md_X12_takeCard mi_X12_takeCard ms_X12_takeCard ml_12_497 (cX12_takeCard (xl x) w hL t ht 40 M9) ht rfl (by decide) ⟨Nat.le_of_ble_eq_true rfl, Nat.le_of_ble_eq_true rfl⟩ rfl rfl (Nat.le_of_ble_eq_true rfl) (fun r14 => .int r14 :: [.int 11, .ref (t + 2)]) (fun _ => rfl) rfl (fun r14 M13 => ?_)
      refine r_iast (pc' := 127) (k := 11) hx (hd 76) h12 (by decide) (by decide) rfl (fun M15 => ?_)
      refine r_aload_n (pc' := 128) hx (hd 77) rfl 0 rfl rfl ?_
      refine r_get (pc' := 131) (v := .ref (t + 2)) hx (hd 78) fl_12_13 ht rfl (by decide) rfl ?_
      have h16 := hL.1 _ _ _ ht 3 2 20 5594 rfl
      refine r_bipush (pc' := 133) (v := 18) hx (hd 79) (by decide) rfl ?_
      refine r_aload_n (pc' := 134) hx (hd 80) rfl 0 rfl rfl ?_
      refine r_get (pc' := 137) (v := .ref (t + 2)) hx (hd 81) fl_12_13 ht rfl (by decide) rfl ?_
      have h17 := hL.1 _ _ _ ht 3 2 20 5594 rfl
      refine r_bipush (pc' := 139) (v := 11) hx (hd 82) (by decide) rfl ?_
      refine r_iald (pc' := 140) (k := 11) hx (hd 83) h17 (by decide) (by decide) rfl ?_
      refine r_iadd (pc' := 141) hx (hd 84) rfl ?_
      refine r_iconst (pc' := 142) (v := 3) hx (hd 85) (by decide) rfl ?_
      refine r_gd (fun h19 => ?_)
      refine r_iast (pc' := 143) (k := ix (18 + (mI M15 (t + 2) 11))) hx (hd 86) h16 h19 rfl rfl (fun M18 => ?_)
      refine r_aload_n (pc' := 144) hx (hd 87) rfl 0 rfl rfl ?_
      refine r_get (pc' := 147) (v := .ref (t + 2)) hx (hd 88) fl_12_13 ht rfl (by decide) rfl ?_
      have h20 := hL.1 _ _ _ ht 3 2 20 5594 rfl
      refine r_bipush (pc' := 149) (v := 9) hx (hd 89) (by decide) rfl ?_
      refine r_iconst (pc' := 150) (v := 1) hx (hd 90) (by decide) rfl ?_
      refine r_iast (pc' := 151) (k := 9) hx (hd 91) h20 (by decide) (by decide) rfl (fun M21 => ?_)
      refine r_aload_n (pc' := 152) hx (hd 92) rfl 0 rfl rfl ?_
      refine r_get (pc' := 155) (v := .ref (t + 2)) hx (hd 93) fl_12_13 ht rfl (by decide) rfl ?_
      have h22 := hL.1 _ _ _ ht 3 2 20 5594 rfl
      refine r_bipush (pc' := 157) (v := 12) hx (hd 94) (by decide) rfl ?_
      refine r_iconst (pc' := 158) (v := 0) hx (hd 95) (by decide) rfl ?_
      refine r_iast (pc' := 159) (k := 12) hx (hd 96) h22 (by decide) (by decide) rfl (fun M23 => ?_)
      refine r_aload_n (pc' := 160) hx (hd 97) rfl 0 rfl rfl ?_
      refine r_get (pc' := 163) (v := .ref (t + 2)) hx (hd 98) fl_12_13 ht rfl (by decide) rfl ?_
      have h24 := hL.1 _ _ _ ht 3 2 20 5594 rfl
      refine r_bipush (pc' := 165) (v := 13) hx (hd 99) (by decide) rfl ?_
      refine r_iconst (pc' := 166) (v := 0) hx (hd 100) (by decide) rfl ?_
      refine r_iast (pc' := 167) (k := 13) hx (hd 101) h24 (by decide) (by decide) rfl (fun M25 => ?_)
      refine r_aload_n (pc' := 168) hx (hd 102) rfl 0 rfl rfl ?_
      refine r_get (pc' := 171) (v := .ref (t + 2)) hx (hd 103) fl_12_13 ht rfl (by decide) rfl ?_
      have h26 := hL.1 _ _ _ ht 3 2 20 5594 rfl
      refine r_bipush (pc' := 173) (v := 14) hx (hd 104) (by decide) rfl ?_
      refine r_iconst (pc' := 174) (v := (-1)) hx (hd 105) (by decide) rfl ?_
      refine r_iast (pc' := 175) (k := 14) hx (hd 106) h26 (by decide) (by decide) rfl (fun M27 => ?_)
      refine r_aload_n (pc' := 176) hx (hd 107) rfl 0 rfl rfl ?_
      refine r_get (pc' := 179) (v := .ref (t + 2)) hx (hd 108) fl_12_13 ht rfl (by decide) rfl ?_
      have h28 := hL.1 _ _ _ ht 3 2 20 5594 rfl
      refine r_bipush (pc' := 181) (v := 15) hx (hd 109) (by decide) rfl ?_
      refine r_iconst (pc' := 182) (v := (-1)) hx (hd 110) (by decide) rfl ?_
      refine r_iast (pc' := 183) (k := 15) hx (hd 111) h28 (by decide) (by decide) rfl (fun M29 => ?_)
      refine r_aload_n (pc' := 184) hx (hd 112) rfl 0 rfl rfl ?_
      refine r_get (pc' := 187) (v := .ref (t + 2)) hx (hd 113) fl_12_13 ht rfl (by decide) rfl ?_
      have h30 := hL.1 _ _ _ ht 3 2 20 5594 rfl
      refine r_bipush (pc' := 189) (v := 8) hx (hd 114) (by decide) rfl ?_
      refine r_dup2 (pc' := 190) hx (hd 115) rfl rfl rfl ?_
      refine r_iald (pc' := 191) (k := 8) hx (hd 116) h30 (by decide) (by decide) rfl ?_
      refine r_iconst (pc' := 192) (v := 1) hx (hd 117) (by decide) rfl ?_
      refine r_iadd (pc' := 193) hx (hd 118) rfl ?_
      refine r_iast (pc' := 194) (k := 8) hx (hd 119) h30 (by decide) (by decide) rfl (fun M31 => ?_)
      exact r_vret hx (hd 120) rfl rfl hz
    · skip
      refine r_aload_n (pc' := 66) hx (hd 41) rfl 0 rfl rfl ?_
      refine r_bipush (pc' := 68) (v := 52) hx (hd 42) (by decide) rfl ?_
      refine r_iload_n (pc' := 69) hx (hd 43) rfl 1 rfl rfl ?_
      refine r_isub (pc' := 70) hx (hd 44) rfl ?_
      refine r_callVI (pc' := 73) (As := [.int (52 - v8)]) (rest := []) hx (hd 45) md_X12_takeCard mi_X12_takeCard ms_X12_takeCard ml_12_497 (cX12_takeCard (xl x) w hL t ht (52 - v8) M9) ht rfl (by decide) ⟨Nat.le_of_ble_eq_true rfl, Nat.le_of_ble_eq_true rfl⟩ rfl rfl (Nat.le_of_ble_eq_true rfl) (fun r33 => .int r33 :: []) (fun _ => rfl) rfl (fun r33 M32 => ?_)
      refine r_istore_n (pc' := 74) (L' := [(2, .int r33), (0, .ref t), (1, .int v8)]) hx (hd 46) rfl (by decide) rfl rfl ?_
      refine r_aload_n (pc' := 75) hx (hd 47) rfl 1 rfl rfl ?_
      refine r_get (pc' := 78) (v := .ref (t + 2)) hx (hd 48) fl_12_13 ht rfl (by decide) rfl ?_
      have h34 := hL.1 _ _ _ ht 3 2 20 5594 rfl
      refine r_bipush (pc' := 80) (v := 18) hx (hd 49) (by decide) rfl ?_
      refine r_iload_n (pc' := 81) hx (hd 50) rfl 0 rfl rfl ?_
      refine r_iadd (pc' := 82) hx (hd 51) rfl ?_
      refine r_iload_n (pc' := 83) hx (hd 52) rfl 2 rfl rfl ?_
      refine r_iconst (pc' := 84) (v := 2) hx (hd 53) (by decide) rfl ?_
      refine r_irem (pc' := 85) hx (hd 54) (by decide) rfl ?_
      refine r_jn1 107 (fun v35 => [(0, .ref t), (1, .int v8)]) (fun v35 => [.int v35, .int (18 + r33), .ref (t + 2)]) (fun v35 => M32) (fun v35 => ?_) (fun j36 hj37 => ?_)
      · skip
        refine r_gd (fun h39 => ?_)
        refine r_iast (pc' := 108) (k := ix (18 + r33)) hx (hd 67) h34 h39 rfl rfl (fun M38 => ?_)
        refine r_iinc (pc' := 111) (v := 1) hx (hd 68) 1 rfl (by decide) (by decide) (fun v40 => [(1, .int v40), (0, .ref t)]) (fun _ => rfl) rfl (fun v40 => ?_)
        refine r_goto (tgt := 59) hx (hd 69) (by decide) ?_
        refine r_sub [1, 0] rfl ?_
        exact ih11 v40 M38
      refine r_if_ne (tgt := 100) (pc' := 88) hx (hd 55) (by decide) (fun _ => ?_) rfl (fun _ => ?_)
      · skip
        refine r_aload_n (pc' := 101) hx (hd 63) rfl 1 rfl rfl ?_
        refine r_get (pc' := 104) (v := .ref (t + 2)) hx (hd 64) fl_12_13 ht rfl (by decide) rfl ?_
        have h41 := hL.1 _ _ _ ht 3 2 20 5594 rfl
        refine r_bipush (pc' := 106) (v := 10) hx (hd 65) (by decide) rfl ?_
        refine r_iald (pc' := 107) (k := 10) hx (hd 66) h41 (by decide) (by decide) rfl ?_
        refine r_sub [1, 2] rfl ?_
        exact hj37 (mI M32 (t + 2) 10)
      · skip
        refine r_iconst (pc' := 89) (v := 1) hx (hd 56) (by decide) rfl ?_
        refine r_aload_n (pc' := 90) hx (hd 57) rfl 1 rfl rfl ?_
        refine r_get (pc' := 93) (v := .ref (t + 2)) hx (hd 58) fl_12_13 ht rfl (by decide) rfl ?_
        have h42 := hL.1 _ _ _ ht 3 2 20 5594 rfl
        refine r_bipush (pc' := 95) (v := 10) hx (hd 59) (by decide) rfl ?_
        refine r_iald (pc' := 96) (k := 10) hx (hd 60) h42 (by decide) (by decide) rfl ?_
        refine r_isub (pc' := 97) hx (hd 61) rfl ?_
        refine r_goto (tgt := 107) hx (hd 62) (by decide) ?_
        refine r_sub [1, 2] rfl ?_
        exact hj37 (1 - (mI M32 (t + 2) 10))
  · skip
    refine r_aload_n (pc' := 9) hx (hd 5) rfl 0 rfl rfl ?_
    refine r_get (pc' := 12) (v := .ref (t + 30)) hx (hd 6) fl_12_143 ht rfl (by decide) rfl ?_
    have h43 := hL.1 _ _ _ ht 51 30 20 52 rfl
    refine r_iload_n (pc' := 13) hx (hd 7) rfl 1 rfl rfl ?_
    refine r_iload_n (pc' := 14) hx (hd 8) rfl 1 rfl rfl ?_
    refine r_gd (fun h45 => ?_)
    refine r_iast (pc' := 15) (k := ix v1) hx (hd 9) h43 h45 rfl rfl (fun M44 => ?_)
    refine r_aload_n (pc' := 16) hx (hd 10) rfl 0 rfl rfl ?_
    refine r_get (pc' := 19) (v := .ref (t + 2)) hx (hd 11) fl_12_13 ht rfl (by decide) rfl ?_
    have h46 := hL.1 _ _ _ ht 3 2 20 5594 rfl
    refine r_bipush (pc' := 21) (v := 18) hx (hd 12) (by decide) rfl ?_
    refine r_iload_n (pc' := 22) hx (hd 13) rfl 1 rfl rfl ?_
    refine r_iadd (pc' := 23) hx (hd 14) rfl ?_
    refine r_iconst (pc' := 24) (v := (-1)) hx (hd 15) (by decide) rfl ?_
    refine r_gd (fun h48 => ?_)
    refine r_iast (pc' := 25) (k := ix (18 + v1)) hx (hd 16) h46 h48 rfl rfl (fun M47 => ?_)
    refine r_aload_n (pc' := 26) hx (hd 17) rfl 0 rfl rfl ?_
    refine r_get (pc' := 29) (v := .ref (t + 2)) hx (hd 18) fl_12_13 ht rfl (by decide) rfl ?_
    have h49 := hL.1 _ _ _ ht 3 2 20 5594 rfl
    refine r_bipush (pc' := 31) (v := 70) hx (hd 19) (by decide) rfl ?_
    refine r_iload_n (pc' := 32) hx (hd 20) rfl 1 rfl rfl ?_
    refine r_iadd (pc' := 33) hx (hd 21) rfl ?_
    refine r_iconst (pc' := 34) (v := 0) hx (hd 22) (by decide) rfl ?_
    refine r_gd (fun h51 => ?_)
    refine r_iast (pc' := 35) (k := ix (70 + v1)) hx (hd 23) h49 h51 rfl rfl (fun M50 => ?_)
    refine r_iinc (pc' := 38) (v := 1) hx (hd 24) 1 rfl (by decide) (by decide) (fun v52 => [(1, .int v52), (0, .ref t)]) (fun _ => rfl) rfl (fun v52 => ?_)
    refine r_goto (tgt := 2) hx (hd 25) (by decide) ?_
    refine r_sub [1, 0] rfl ?_
    exact ih4 v52 M50
abbrev yX12_dealNow : MethodName := ({ cls := "CribbageRoomModel", name := "dealNow", desc := "(I)I" } : Jvm.MethodName)
def tbX12_dealNow : List (Nat × Instr × Nat) := [(0, .iload_n 1, 1), (1, .i2l, 1), (2, .lconst 0, 1), (3, .ldc2_w 299, 3), (6, .invokestatic 208, 3), (9, .ifCond .ne 5, 3), (12, .iconst (-1), 1), (13, .ireturn, 1), (14, .aload_n 0, 1), (15, .getfield 13, 3), (18, .bipush 9, 2), (20, .iaload, 1), (21, .iconst 1, 1), (22, .if_icmp .eq 27, 3), (25, .aload_n 0, 1), (26, .getfield 13, 3), (29, .bipush 9, 2), (31, .iaload, 1), (32, .iconst 2, 1), (33, .if_icmp .eq 16, 3), (36, .aload_n 0, 1), (37, .getfield 13, 3), (40, .bipush 8, 2), (42, .iaload, 1), (43, .sipush 999, 3), (46, .if_icmp .ne 6, 3), (49, .bipush (-3), 2), (51, .ireturn, 1), (52, .aload_n 0, 1), (53, .iconst 0, 1), (54, .invokevirtual 500, 3), (57, .aload_n 0, 1), (58, .iload_n 1, 1), (59, .i2l, 1), (60, .putfield 487, 3), (63, .aload_n 0, 1), (64, .invokevirtual 503, 3), (67, .aload_n 0, 1), (68, .getfield 13, 3), (71, .bipush 11, 2), (73, .iaload, 1), (74, .ireturn, 1)]
theorem dX12_dealNow : ∀ q ∈ tbX12_dealNow, decode prog_14_method_79_code q.1 = .ok q.2 := by decide +kernel
set_option maxRecDepth 20000 in
theorem cX12_dealNow (l : Launch) (w : WX) (hL : Lay w) (t : Nat) (ht : Wat w t 12 0) (p1 : Int32) (M : Mem) : Ct l w yX12_dealNow prog_14_method_79_code 2 (Option.some FieldType.int) 3 67 evIM emM [.ref t, .int p1] M (FX12_dealNow t p1 M) := by
  refine ct_of (by decide) (Nat.le_of_ble_eq_true rfl) (fun x hl hx hb hz => ?_)
  subst hl
  have hd : ∀ i, DAt (xc x).code (tbX12_dealNow[i]?) := fun i => by rw [hb]; exact dat_of dX12_dealNow i
  show C x w (Qn x w evIM emM) 2 0 [(0, .ref t), (1, .int p1)] [] M (FX12_dealNow t p1 M)
  unfold FX12_dealNow
  refine r_iload_n (pc' := 1) hx (hd 0) rfl 1 rfl rfl ?_
  refine r_i2l (pc' := 2) hx (hd 1) rfl ?_
  refine r_lconst (pc' := 3) (v := 0) hx (hd 2) (by decide) rfl ?_
  refine r_ldc2 (pc' := 6) hx (hd 3) kc_12_299 rfl ?_
  refine r_callS (pc' := 9) (As := [.long p1.toInt64, .long 0, .long 1000000]) (rest := []) hx (hd 4) md_X12_in mst_X12_in ml_12_208 (cX12_in (xl x) w hL (p1.toInt64) 0 1000000 M) ⟨Nat.le_of_ble_eq_true rfl, Nat.le_of_ble_eq_true rfl⟩ rfl rfl (Nat.le_of_ble_eq_true rfl) (fun r1 => .int r1 :: []) (fun _ => M) (fun _ => ⟨rfl, rfl⟩) rfl (fun r1 _ => ?_)
  refine r_if_ne (tgt := 14) (pc' := 12) hx (hd 5) (by decide) (fun _ => ?_) rfl (fun _ => ?_)
  · skip
    refine r_aload_n (pc' := 15) hx (hd 8) rfl 0 rfl rfl ?_
    refine r_get (pc' := 18) (v := .ref (t + 2)) hx (hd 9) fl_12_13 ht rfl (by decide) rfl ?_
    have h2 := hL.1 _ _ _ ht 3 2 20 5594 rfl
    refine r_bipush (pc' := 20) (v := 9) hx (hd 10) (by decide) rfl ?_
    refine r_iald (pc' := 21) (k := 9) hx (hd 11) h2 (by decide) (by decide) rfl ?_
    refine r_iconst (pc' := 22) (v := 1) hx (hd 12) (by decide) rfl ?_
    refine r_jn0 49 ([]) ([]) (M) (?_) (fun j3 hj4 => ?_)
    · skip
      refine r_bipush (pc' := 51) (v := (-3)) hx (hd 26) (by decide) rfl ?_
      exact r_iret hx (hd 27) rfl rfl hz
    refine r_icmp_eq (tgt := 49) (pc' := 25) hx (hd 13) (by decide) (fun _ => ?_) rfl (fun _ => ?_)
    · skip
      refine r_sub [] rfl ?_
      exact hj4
    · skip
      refine r_aload_n (pc' := 26) hx (hd 14) rfl 0 rfl rfl ?_
      refine r_get (pc' := 29) (v := .ref (t + 2)) hx (hd 15) fl_12_13 ht rfl (by decide) rfl ?_
      have h5 := hL.1 _ _ _ ht 3 2 20 5594 rfl
      refine r_bipush (pc' := 31) (v := 9) hx (hd 16) (by decide) rfl ?_
      refine r_iald (pc' := 32) (k := 9) hx (hd 17) h5 (by decide) (by decide) rfl ?_
      refine r_iconst (pc' := 33) (v := 2) hx (hd 18) (by decide) rfl ?_
      refine r_icmp_eq (tgt := 49) (pc' := 36) hx (hd 19) (by decide) (fun _ => ?_) rfl (fun _ => ?_)
      · skip
        refine r_sub [] rfl ?_
        exact hj4
      · skip
        refine r_aload_n (pc' := 37) hx (hd 20) rfl 0 rfl rfl ?_
        refine r_get (pc' := 40) (v := .ref (t + 2)) hx (hd 21) fl_12_13 ht rfl (by decide) rfl ?_
        have h6 := hL.1 _ _ _ ht 3 2 20 5594 rfl
        refine r_bipush (pc' := 42) (v := 8) hx (hd 22) (by decide) rfl ?_
        refine r_iald (pc' := 43) (k := 8) hx (hd 23) h6 (by decide) (by decide) rfl ?_
        refine r_sipush (pc' := 46) (v := 999) hx (hd 24) (by decide) rfl ?_
        refine r_icmp_ne (tgt := 52) (pc' := 49) hx (hd 25) (by decide) (fun _ => ?_) rfl (fun _ => ?_)
        · skip
          refine r_aload_n (pc' := 53) hx (hd 28) rfl 0 rfl rfl ?_
          refine r_iconst (pc' := 54) (v := 0) hx (hd 29) (by decide) rfl ?_
          refine r_callVU (pc' := 57) (As := [.int 0]) (rest := []) hx (hd 30) md_X12_remember mi_X12_remember ms_X12_remember ml_12_500 (cX12_remember (xl x) w hL t ht 0 M) ht rfl (by decide) ⟨Nat.le_of_ble_eq_true rfl, Nat.le_of_ble_eq_true rfl⟩ rfl rfl (Nat.le_of_ble_eq_true rfl) rfl (fun M7 => ?_)
          refine r_aload_n (pc' := 58) hx (hd 31) rfl 0 rfl rfl ?_
          refine r_iload_n (pc' := 59) hx (hd 32) rfl 1 rfl rfl ?_
          refine r_i2l (pc' := 60) hx (hd 33) rfl ?_
          refine r_putJ (pc' := 63) hx (hd 34) fp_12_487 ht rfl (by decide) rfl (fun M8 => ?_)
          refine r_aload_n (pc' := 64) hx (hd 35) rfl 0 rfl rfl ?_
          refine r_callVU (pc' := 67) (As := []) (rest := []) hx (hd 36) md_X12_dealIt mi_X12_dealIt ms_X12_dealIt ml_12_503 (cX12_dealIt (xl x) w hL t ht M8) ht rfl (by decide) ⟨Nat.le_of_ble_eq_true rfl, Nat.le_of_ble_eq_true rfl⟩ rfl rfl (Nat.le_of_ble_eq_true rfl) rfl (fun M9 => ?_)
          refine r_aload_n (pc' := 68) hx (hd 37) rfl 0 rfl rfl ?_
          refine r_get (pc' := 71) (v := .ref (t + 2)) hx (hd 38) fl_12_13 ht rfl (by decide) rfl ?_
          have h10 := hL.1 _ _ _ ht 3 2 20 5594 rfl
          refine r_bipush (pc' := 73) (v := 11) hx (hd 39) (by decide) rfl ?_
          refine r_iald (pc' := 74) (k := 11) hx (hd 40) h10 (by decide) (by decide) rfl ?_
          exact r_iret hx (hd 41) rfl rfl hz
        · skip
          refine r_sub [] rfl ?_
          exact hj4
  · skip
    refine r_iconst (pc' := 13) (v := (-1)) hx (hd 6) (by decide) rfl ?_
    exact r_iret hx (hd 7) rfl rfl hz
abbrev yX12_deal : MethodName := ({ cls := "CribbageRoomModel", name := "deal", desc := "(I)I" } : Jvm.MethodName)
def tbX12_deal : List (Nat × Instr × Nat) := [(0, .aload_n 0, 1), (1, .iconst 0, 1), (2, .putfield 188, 3), (5, .aload_n 0, 1), (6, .aload_n 0, 1), (7, .iload_n 1, 1), (8, .invokevirtual 506, 3), (11, .invokevirtual 197, 3), (14, .ireturn, 1)]
theorem dX12_deal : ∀ q ∈ tbX12_deal, decode prog_14_method_80_code q.1 = .ok q.2 := by decide +kernel
set_option maxRecDepth 20000 in
theorem cX12_deal (l : Launch) (w : WX) (hL : Lay w) (t : Nat) (ht : Wat w t 12 0) (p1 : Int32) (M : Mem) : Ct l w yX12_deal prog_14_method_80_code 2 (Option.some FieldType.int) 4 88 evIM emM [.ref t, .int p1] M (FX12_deal t p1 M) := by
  refine ct_of (by decide) (Nat.le_of_ble_eq_true rfl) (fun x hl hx hb hz => ?_)
  subst hl
  have hd : ∀ i, DAt (xc x).code (tbX12_deal[i]?) := fun i => by rw [hb]; exact dat_of dX12_deal i
  show C x w (Qn x w evIM emM) 2 0 [(0, .ref t), (1, .int p1)] [] M (FX12_deal t p1 M)
  unfold FX12_deal
  refine r_aload_n (pc' := 1) hx (hd 0) rfl 0 rfl rfl ?_
  refine r_iconst (pc' := 2) (v := 0) hx (hd 1) (by decide) rfl ?_
  refine r_putI (pc' := 5) hx (hd 2) fp_12_188 ht rfl (by decide) rfl (fun M1 => ?_)
  refine r_aload_n (pc' := 6) hx (hd 3) rfl 0 rfl rfl ?_
  refine r_aload_n (pc' := 7) hx (hd 4) rfl 0 rfl rfl ?_
  refine r_iload_n (pc' := 8) hx (hd 5) rfl 1 rfl rfl ?_
  refine r_callVI (pc' := 11) (As := [.int p1]) (rest := [.ref t]) hx (hd 6) md_X12_dealNow mi_X12_dealNow ms_X12_dealNow ml_12_506 (cX12_dealNow (xl x) w hL t ht p1 M1) ht rfl (by decide) ⟨Nat.le_of_ble_eq_true rfl, Nat.le_of_ble_eq_true rfl⟩ rfl rfl (Nat.le_of_ble_eq_true rfl) (fun r3 => .int r3 :: [.ref t]) (fun _ => rfl) rfl (fun r3 M2 => ?_)
  refine r_callVI (pc' := 14) (As := [.int r3]) (rest := []) hx (hd 7) md_X12_tell mi_X12_tell ms_X12_tell ml_12_197 (cX12_tell (xl x) w hL t ht r3 M2) ht rfl (by decide) ⟨Nat.le_of_ble_eq_true rfl, Nat.le_of_ble_eq_true rfl⟩ rfl rfl (Nat.le_of_ble_eq_true rfl) (fun r5 => .int r5 :: []) (fun _ => rfl) rfl (fun r5 M4 => ?_)
  exact r_iret hx (hd 8) rfl rfl hz
abbrev yX12_peg : MethodName := ({ cls := "CribbageRoomModel", name := "peg", desc := "(II)V" } : Jvm.MethodName)
def tbX12_peg : List (Nat × Instr × Nat) := [(0, .aload_n 0, 1), (1, .getfield 13, 3), (4, .bipush 16, 2), (6, .iload_n 1, 1), (7, .iadd, 1), (8, .aload_n 0, 1), (9, .getfield 13, 3), (12, .bipush 16, 2), (14, .iload_n 1, 1), (15, .iadd, 1), (16, .iaload, 1), (17, .iload_n 2, 1), (18, .iadd, 1), (19, .i2l, 1), (20, .iconst 0, 1), (21, .sipush 9999, 3), (24, .invokestatic 454, 3), (27, .iastore, 1), (28, .return_, 1)]
theorem dX12_peg : ∀ q ∈ tbX12_peg, decode prog_14_method_81_code q.1 = .ok q.2 := by decide +kernel
set_option maxRecDepth 20000 in
theorem cX12_peg (l : Launch) (w : WX) (hL : Lay w) (t : Nat) (ht : Wat w t 12 0) (p1 : Int32) (p2 : Int32) (M : Mem) : Ct l w yX12_peg prog_14_method_81_code 3 (Option.none : Option FieldType) 1 23 evU emU [.ref t, .int p1, .int p2] M (FX12_peg t p1 p2 M) := by
  refine ct_of (by decide) (Nat.le_of_ble_eq_true rfl) (fun x hl hx hb hz => ?_)
  subst hl
  have hd : ∀ i, DAt (xc x).code (tbX12_peg[i]?) := fun i => by rw [hb]; exact dat_of dX12_peg i
  show C x w (Qn x w evU emU) 3 0 [(0, .ref t), (1, .int p1), (2, .int p2)] [] M (FX12_peg t p1 p2 M)
  unfold FX12_peg
  refine r_aload_n (pc' := 1) hx (hd 0) rfl 0 rfl rfl ?_
  refine r_get (pc' := 4) (v := .ref (t + 2)) hx (hd 1) fl_12_13 ht rfl (by decide) rfl ?_
  have h1 := hL.1 _ _ _ ht 3 2 20 5594 rfl
  refine r_bipush (pc' := 6) (v := 16) hx (hd 2) (by decide) rfl ?_
  refine r_iload_n (pc' := 7) hx (hd 3) rfl 1 rfl rfl ?_
  refine r_iadd (pc' := 8) hx (hd 4) rfl ?_
  refine r_aload_n (pc' := 9) hx (hd 5) rfl 0 rfl rfl ?_
  refine r_get (pc' := 12) (v := .ref (t + 2)) hx (hd 6) fl_12_13 ht rfl (by decide) rfl ?_
  have h2 := hL.1 _ _ _ ht 3 2 20 5594 rfl
  refine r_bipush (pc' := 14) (v := 16) hx (hd 7) (by decide) rfl ?_
  refine r_iload_n (pc' := 15) hx (hd 8) rfl 1 rfl rfl ?_
  refine r_iadd (pc' := 16) hx (hd 9) rfl ?_
  refine r_gd (fun h3 => ?_)
  refine r_iald (pc' := 17) (k := ix (16 + p1)) hx (hd 10) h2 h3 rfl rfl ?_
  refine r_iload_n (pc' := 18) hx (hd 11) rfl 2 rfl rfl ?_
  refine r_iadd (pc' := 19) hx (hd 12) rfl ?_
  refine r_i2l (pc' := 20) hx (hd 13) rfl ?_
  refine r_iconst (pc' := 21) (v := 0) hx (hd 14) (by decide) rfl ?_
  refine r_sipush (pc' := 24) (v := 9999) hx (hd 15) (by decide) rfl ?_
  refine r_callS (pc' := 27) (As := [.long ((mI M (t + 2) (ix (16 + p1))) + p2).toInt64, .int 0, .int 9999]) (rest := [.int (16 + p1), .ref (t + 2)]) hx (hd 16) md_X12_bounded mst_X12_bounded ml_12_454 (cX12_bounded (xl x) w hL (((mI M (t + 2) (ix (16 + p1))) + p2).toInt64) 0 9999 M) ⟨Nat.le_of_ble_eq_true rfl, Nat.le_of_ble_eq_true rfl⟩ rfl rfl (Nat.le_of_ble_eq_true rfl) (fun r4 => .int r4 :: [.int (16 + p1), .ref (t + 2)]) (fun _ => M) (fun _ => ⟨rfl, rfl⟩) rfl (fun r4 _ => ?_)
  refine r_gd (fun h6 => ?_)
  refine r_iast (pc' := 28) (k := ix (16 + p1)) hx (hd 17) h1 h6 rfl rfl (fun M5 => ?_)
  exact r_vret hx (hd 18) rfl rfl hz
