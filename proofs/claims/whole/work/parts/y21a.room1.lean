abbrev yX11_isCard : MethodName := ({ cls := "CribbageRoom", name := "isCard", desc := "(I)Z" } : Jvm.MethodName)
def tbX11_isCard : List (Nat × Instr × Nat) := [(0, .iload_n 0, 1), (1, .ifCond .lt 13, 3), (4, .iload_n 0, 1), (5, .bipush 52, 2), (7, .if_icmp .ge 7, 3), (10, .iconst 1, 1), (11, .goto 4, 3), (14, .iconst 0, 1), (15, .ireturn, 1)]
theorem dX11_isCard : ∀ q ∈ tbX11_isCard, decode prog_1_method_54_code q.1 = .ok q.2 := by decide +kernel
set_option maxRecDepth 20000 in
theorem cX11_isCard (l : Launch) (w : WX) (hL : Lay w) (p0 : Int32) (M : Mem) : Ct l w yX11_isCard prog_1_method_54_code 1 (Option.some FieldType.boolean) 0 0 evI (emC M) [.int p0] M (FX11_isCard p0) := by
  refine ct_of (by decide) (Nat.le_of_ble_eq_true rfl) (fun x hl hx hb hz => ?_)
  subst hl
  have hd : ∀ i, DAt (xc x).code (tbX11_isCard[i]?) := fun i => by rw [hb]; exact dat_of dX11_isCard i
  show C x w (Qn x w evI (emC M)) 1 0 [(0, .int p0)] [] M (FX11_isCard p0)
  unfold FX11_isCard
  refine r_iload_n (pc' := 1) hx (hd 0) rfl 0 rfl rfl ?_
  refine r_jn1 15 (fun v1 => []) (fun v1 => [.int v1]) (fun v1 => M) (fun v1 => ?_) (fun j2 hj3 => ?_)
  · skip
    refine r_gd (fun h4 => ?_)
    exact r_zret hx (hd 8) h4 rfl rfl hz
  refine r_jn0 14 ([]) ([]) (M) (?_) (fun j5 hj6 => ?_)
  · skip
    refine r_iconst (pc' := 15) (v := 0) hx (hd 7) (by decide) rfl ?_
    exact hj3 0
  refine r_if_lt (tgt := 14) (pc' := 4) hx (hd 1) (by decide) (fun _ => ?_) rfl (fun _ => ?_)
  · skip
    refine r_sub [] rfl ?_
    exact hj6
  · skip
    refine r_iload_n (pc' := 5) hx (hd 2) rfl 0 rfl rfl ?_
    refine r_bipush (pc' := 7) (v := 52) hx (hd 3) (by decide) rfl ?_
    refine r_icmp_ge (tgt := 14) (pc' := 10) hx (hd 4) (by decide) (fun _ => ?_) rfl (fun _ => ?_)
    · skip
      refine r_sub [] rfl ?_
      exact hj6
    · skip
      refine r_iconst (pc' := 11) (v := 1) hx (hd 5) (by decide) rfl ?_
      refine r_goto (tgt := 15) hx (hd 6) (by decide) ?_
      refine r_sub [] rfl ?_
      exact hj3 1
abbrev yX6_lawAt : MethodName := ({ cls := "CribbageRoom$State", name := "lawAt", desc := "(I)LCribbageRoom$Text;" } : Jvm.MethodName)
def tbX6_lawAt : List (Nat × Instr × Nat) := [(0, .iload_n 1, 1), (1, .ifCond .lt 26, 3), (4, .iload_n 1, 1), (5, .aload_n 0, 1), (6, .getfield 41, 3), (9, .if_icmp .ge 18, 3), (12, .iload_n 1, 1), (13, .bipush 6, 2), (15, .if_icmp .ge 12, 3), (18, .aload_n 0, 1), (19, .getfield 27, 3), (22, .iload_n 1, 1), (23, .aaload, 1), (24, .goto 4, 3), (27, .aconst_null, 1), (28, .areturn, 1)]
theorem dX6_lawAt : ∀ q ∈ tbX6_lawAt, decode prog_8_method_4_code q.1 = .ok q.2 := by decide +kernel
set_option maxRecDepth 20000 in
theorem cX6_lawAt (l : Launch) (w : WX) (hL : Lay w) (t : Nat) (ht : Wat w t 6 0) (p1 : Int32) (M : Mem) : Ct l w yX6_lawAt prog_8_method_4_code 2 (Option.some (FieldType.object "CribbageRoom$Text")) 0 0 evR (emC M) [.ref t, .int p1] M (FX6_lawAt t p1 M) := by
  refine ct_of (by decide) (Nat.le_of_ble_eq_true rfl) (fun x hl hx hb hz => ?_)
  subst hl
  have hd : ∀ i, DAt (xc x).code (tbX6_lawAt[i]?) := fun i => by rw [hb]; exact dat_of dX6_lawAt i
  show C x w (Qn x w evR (emC M)) 2 0 [(0, .ref t), (1, .int p1)] [] M (FX6_lawAt t p1 M)
  unfold FX6_lawAt
  refine r_iload_n (pc' := 1) hx (hd 0) rfl 1 rfl rfl ?_
  refine r_jn1 28 (fun v1 => []) (fun v1 => [va_rf v1]) (fun v1 => M) (fun v1 => ?_) (fun j2 hj3 => ?_)
  · skip
    exact r_aret (v := v1) hx (hd 15) rfl rfl hz
  refine r_jn0 27 ([]) ([]) (M) (?_) (fun j4 hj5 => ?_)
  · skip
    refine r_null (pc' := 28) hx (hd 14) rfl ?_
    exact hj3 none
  refine r_if_lt (tgt := 27) (pc' := 4) hx (hd 1) (by decide) (fun _ => ?_) rfl (fun _ => ?_)
  · skip
    refine r_sub [] rfl ?_
    exact hj5
  · skip
    refine r_iload_n (pc' := 5) hx (hd 2) rfl 1 rfl rfl ?_
    refine r_aload_n (pc' := 6) hx (hd 3) rfl 0 rfl rfl ?_
    refine r_get (pc' := 9) (v := .int (mI M t 7)) hx (hd 4) fl_6_41 ht rfl (by decide) rfl ?_
    refine r_icmp_ge (tgt := 27) (pc' := 12) hx (hd 5) (by decide) (fun _ => ?_) rfl (fun _ => ?_)
    · skip
      refine r_sub [] rfl ?_
      exact hj5
    · skip
      refine r_iload_n (pc' := 13) hx (hd 6) rfl 1 rfl rfl ?_
      refine r_bipush (pc' := 15) (v := 6) hx (hd 7) (by decide) rfl ?_
      refine r_icmp_ge (tgt := 27) (pc' := 18) hx (hd 8) (by decide) (fun _ => ?_) rfl (fun _ => ?_)
      · skip
        refine r_sub [] rfl ?_
        exact hj5
      · skip
        refine r_aload_n (pc' := 19) hx (hd 9) rfl 0 rfl rfl ?_
        refine r_get (pc' := 22) (v := .ref (t + 7)) hx (hd 10) fl_6_27 ht rfl (by decide) rfl ?_
        have h6 := hL.1 _ _ _ ht 3 7 36 6 rfl
        refine r_iload_n (pc' := 23) hx (hd 11) rfl 1 rfl rfl ?_
        refine r_gd (fun h7 => ?_)
        refine r_aaldT (pc' := 24) (k := ix p1) hx (hd 12) h6 h7 rfl rfl (fun wt8 => ?_)
        refine r_nmR (fun v9 hn10 => ?_)
        refine r_goto (tgt := 28) hx (hd 13) (by decide) ?_
        refine r_sub [] rfl ?_
        exact hj3 v9
theorem wX6_lawAt {w : WX} (hL : Lay w) (t : Nat) (ht : Wat w t 6 0) (p1 : Int32) {M : Mem} {r : Option Nat} (wt : WT w M) (hg : FX6_lawAt t p1 M = some r) (b : Nat) (hb : r = some b) : Wat w b 9 0 := by
  have h7 := hL.1 _ _ _ ht 3 7 36 6 rfl
  subst hb
  unfold FX6_lawAt at hg
  simp only [jn0, jn1, nm, gd] at hg
  repeat' split at hg
  all_goals first | (cases hg; done) | (exact wt _ _ _ h7 _ 9 b rfl (Option.some.inj hg)) | simp_all
abbrev yX6_term : MethodName := ({ cls := "CribbageRoom$State", name := "term", desc := "(I)I" } : Jvm.MethodName)
def tbX6_term : List (Nat × Instr × Nat) := [(0, .iload_n 1, 1), (1, .iconst 1, 1), (2, .if_icmp .lt 19, 3), (5, .iload_n 1, 1), (6, .iconst 4, 1), (7, .if_icmp .ge 14, 3), (10, .aload_n 0, 1), (11, .getfield 31, 3), (14, .iload_n 1, 1), (15, .iconst 1, 1), (16, .isub, 1), (17, .iaload, 1), (18, .goto 10, 3), (21, .aload_n 0, 1), (22, .getfield 12, 3), (25, .getfield 38, 3), (28, .ireturn, 1)]
theorem dX6_term : ∀ q ∈ tbX6_term, decode prog_8_method_2_code q.1 = .ok q.2 := by decide +kernel
set_option maxRecDepth 20000 in
theorem cX6_term (l : Launch) (w : WX) (hL : Lay w) (t : Nat) (ht : Wat w t 6 0) (p1 : Int32) (M : Mem) : Ct l w yX6_term prog_8_method_2_code 2 (Option.some FieldType.int) 0 0 evI (emC M) [.ref t, .int p1] M (FX6_term t p1 M) := by
  refine ct_of (by decide) (Nat.le_of_ble_eq_true rfl) (fun x hl hx hb hz => ?_)
  subst hl
  have hd : ∀ i, DAt (xc x).code (tbX6_term[i]?) := fun i => by rw [hb]; exact dat_of dX6_term i
  show C x w (Qn x w evI (emC M)) 2 0 [(0, .ref t), (1, .int p1)] [] M (FX6_term t p1 M)
  unfold FX6_term
  refine r_iload_n (pc' := 1) hx (hd 0) rfl 1 rfl rfl ?_
  refine r_iconst (pc' := 2) (v := 1) hx (hd 1) (by decide) rfl ?_
  refine r_jn1 28 (fun v1 => []) (fun v1 => [.int v1]) (fun v1 => M) (fun v1 => ?_) (fun j2 hj3 => ?_)
  · skip
    exact r_iret hx (hd 16) rfl rfl hz
  refine r_jn0 21 ([(0, .ref t)]) ([]) (M) (?_) (fun j4 hj5 => ?_)
  · skip
    refine r_aload_n (pc' := 22) hx (hd 13) rfl 0 rfl rfl ?_
    refine r_get (pc' := 25) (v := .ref (t + 1)) hx (hd 14) fl_6_12 ht rfl (by decide) rfl ?_
    have h6 := hL.1 _ _ _ ht 0 1 8 0 rfl
    refine r_get (pc' := 28) (v := .int (mI M (t + 1) 12)) hx (hd 15) fl_6_38 h6 rfl (by decide) rfl ?_
    refine r_sub [] rfl ?_
    exact hj3 (mI M (t + 1) 12)
  refine r_icmp_lt (tgt := 21) (pc' := 5) hx (hd 2) (by decide) (fun _ => ?_) rfl (fun _ => ?_)
  · skip
    refine r_sub [0] rfl ?_
    exact hj5
  · skip
    refine r_iload_n (pc' := 6) hx (hd 3) rfl 1 rfl rfl ?_
    refine r_iconst (pc' := 7) (v := 4) hx (hd 4) (by decide) rfl ?_
    refine r_icmp_ge (tgt := 21) (pc' := 10) hx (hd 5) (by decide) (fun _ => ?_) rfl (fun _ => ?_)
    · skip
      refine r_sub [0] rfl ?_
      exact hj5
    · skip
      refine r_aload_n (pc' := 11) hx (hd 6) rfl 0 rfl rfl ?_
      refine r_get (pc' := 14) (v := .ref (t + 8)) hx (hd 7) fl_6_31 ht rfl (by decide) rfl ?_
      have h7 := hL.1 _ _ _ ht 4 8 20 3 rfl
      refine r_iload_n (pc' := 15) hx (hd 8) rfl 1 rfl rfl ?_
      refine r_iconst (pc' := 16) (v := 1) hx (hd 9) (by decide) rfl ?_
      refine r_isub (pc' := 17) hx (hd 10) rfl ?_
      refine r_gd (fun h8 => ?_)
      refine r_iald (pc' := 18) (k := ix (p1 - 1)) hx (hd 11) h7 h8 rfl rfl ?_
      refine r_goto (tgt := 28) hx (hd 12) (by decide) ?_
      refine r_sub [] rfl ?_
      exact hj3 (mI M (t + 8) (ix (p1 - 1)))
abbrev yX10_setStandard : MethodName := ({ cls := "CribbageRoom$Worth", name := "setStandard", desc := "()V" } : Jvm.MethodName)
def tbX10_setStandard : List (Nat × Instr × Nat) := [(0, .aload_n 0, 1), (1, .lconst 0, 1), (2, .putfield 90, 3), (5, .iconst 0, 1), (6, .istore_n 1, 1), (7, .iload_n 1, 1), (8, .bipush 52, 2), (10, .if_icmp .ge 25, 3), (13, .aload_n 0, 1), (14, .getfield 18, 3), (17, .iload_n 1, 1), (18, .bipush 10, 2), (20, .iload_n 1, 1), (21, .iconst 4, 1), (22, .idiv, 1), (23, .iconst 1, 1), (24, .iadd, 1), (25, .invokestatic 94, 3), (28, .iastore, 1), (29, .iinc 1 1, 3), (32, .goto (-25), 3), (35, .iconst 0, 1), (36, .istore_n 1, 1), (37, .iload_n 1, 1), (38, .iconst 3, 1), (39, .if_icmp .ge 79, 3), (42, .iconst 0, 1), (43, .istore_n 2, 1), (44, .iload_n 2, 1), (45, .bipush 13, 2), (47, .if_icmp .ge 65, 3), (50, .iload_n 1, 1), (51, .bipush 13, 2), (53, .imul, 1), (54, .iload_n 2, 1), (55, .iadd, 1), (56, .istore_n 3, 1), (57, .aload_n 0, 1), (58, .getfield 24, 3), (61, .iconst 1, 1), (62, .aaload, 1), (63, .iload_n 3, 1), (64, .iconst 2, 1), (65, .iastore, 1), (66, .aload_n 0, 1), (67, .getfield 24, 3), (70, .iconst 2, 1), (71, .aaload, 1), (72, .iload_n 3, 1), (73, .iconst 2, 1), (74, .iastore, 1), (75, .aload_n 0, 1), (76, .getfield 24, 3), (79, .iconst 3, 1), (80, .aaload, 1), (81, .iload_n 3, 1), (82, .iload_n 2, 1), (83, .iastore, 1), (84, .aload_n 0, 1), (85, .getfield 24, 3), (88, .iconst 4, 1), (89, .aaload, 1), (90, .iload_n 3, 1), (91, .iconst 4, 1), (92, .iload_n 2, 1), (93, .iconst 2, 1), (94, .irem, 1), (95, .iadd, 1), (96, .iastore, 1), (97, .aload_n 0, 1), (98, .getfield 24, 3), (101, .iconst 5, 1), (102, .aaload, 1), (103, .iload_n 3, 1), (104, .iconst 1, 1), (105, .iastore, 1), (106, .iinc 2 1, 3), (109, .goto (-65), 3), (112, .iinc 1 1, 3), (115, .goto (-78), 3), (118, .return_, 1)]
theorem dX10_setStandard : ∀ q ∈ tbX10_setStandard, decode prog_12_method_6_code q.1 = .ok q.2 := by decide +kernel
set_option maxRecDepth 20000 in
theorem cX10_setStandard (l : Launch) (w : WX) (hL : Lay w) (t : Nat) (ht : Wat w t 10 0) (M : Mem) : Ct l w yX10_setStandard prog_12_method_6_code 4 (Option.none : Option FieldType) 1 30 evU emU [.ref t] M (FX10_setStandard t M) := by
  refine ct_of (by decide) (Nat.le_of_ble_eq_true rfl) (fun x hl hx hb hz => ?_)
  subst hl
  have hd : ∀ i, DAt (xc x).code (tbX10_setStandard[i]?) := fun i => by rw [hb]; exact dat_of dX10_setStandard i
  show C x w (Qn x w evU emU) 4 0 [(0, .ref t)] [] M (FX10_setStandard t M)
  unfold FX10_setStandard
  refine r_aload_n (pc' := 1) hx (hd 0) rfl 0 rfl rfl ?_
  refine r_lconst (pc' := 2) (v := 0) hx (hd 1) (by decide) rfl ?_
  refine r_putJ (pc' := 5) hx (hd 2) fp_10_90 ht rfl (by decide) rfl (fun M1 => ?_)
  refine r_iconst (pc' := 6) (v := 0) hx (hd 3) (by decide) rfl ?_
  refine r_istore_n (pc' := 7) (L' := [(1, .int 0), (0, .ref t)]) hx (hd 4) rfl (by decide) rfl rfl ?_
  refine r_sub [1, 0] rfl ?_
  refine r_wl2 (fun v2 M3 => [(0, .ref t), (1, .int v2)]) (fun v2 M3 => []) (fun v2 M3 => M3) (fun v2 M3 rec4 ih5 => ?_) fuel 0 M1
  refine r_iload_n (pc' := 8) hx (hd 5) rfl 1 rfl rfl ?_
  refine r_bipush (pc' := 10) (v := 52) hx (hd 6) (by decide) rfl ?_
  refine r_icmp_ge (tgt := 35) (pc' := 13) hx (hd 7) (by decide) (fun _ => ?_) rfl (fun _ => ?_)
  · skip
    refine r_iconst (pc' := 36) (v := 0) hx (hd 21) (by decide) rfl ?_
    refine r_istore_n (pc' := 37) (L' := [(1, .int 0), (0, .ref t)]) hx (hd 22) rfl (by decide) rfl rfl ?_
    refine r_sub [1, 0] rfl ?_
    refine r_wl2 (fun v6 M7 => [(0, .ref t), (1, .int v6)]) (fun v6 M7 => []) (fun v6 M7 => M7) (fun v6 M7 rec8 ih9 => ?_) fuel 0 M3
    refine r_iload_n (pc' := 38) hx (hd 23) rfl 1 rfl rfl ?_
    refine r_iconst (pc' := 39) (v := 3) hx (hd 24) (by decide) rfl ?_
    refine r_icmp_ge (tgt := 118) (pc' := 42) hx (hd 25) (by decide) (fun _ => ?_) rfl (fun _ => ?_)
    · skip
      exact r_vret hx (hd 80) rfl rfl hz
    · skip
      refine r_iconst (pc' := 43) (v := 0) hx (hd 26) (by decide) rfl ?_
      refine r_istore_n (pc' := 44) (L' := [(2, .int 0), (0, .ref t), (1, .int v6)]) hx (hd 27) rfl (by decide) rfl rfl ?_
      refine r_sub [1, 2, 0] rfl ?_
      refine r_wl2 (fun v10 M11 => [(0, .ref t), (1, .int v6), (2, .int v10)]) (fun v10 M11 => []) (fun v10 M11 => M11) (fun v10 M11 rec12 ih13 => ?_) fuel 0 M7
      refine r_iload_n (pc' := 45) hx (hd 28) rfl 2 rfl rfl ?_
      refine r_bipush (pc' := 47) (v := 13) hx (hd 29) (by decide) rfl ?_
      refine r_icmp_ge (tgt := 112) (pc' := 50) hx (hd 30) (by decide) (fun _ => ?_) rfl (fun _ => ?_)
      · skip
        refine r_iinc (pc' := 115) (v := 1) hx (hd 78) 1 rfl (by decide) (by decide) (fun v14 => [(1, .int v14), (0, .ref t), (2, .int v10)]) (fun _ => rfl) rfl (fun v14 => ?_)
        refine r_goto (tgt := 37) hx (hd 79) (by decide) ?_
        refine r_sub [1, 0] rfl ?_
        exact ih9 v14 M11
      · skip
        refine r_iload_n (pc' := 51) hx (hd 31) rfl 1 rfl rfl ?_
        refine r_bipush (pc' := 53) (v := 13) hx (hd 32) (by decide) rfl ?_
        refine r_imul (pc' := 54) hx (hd 33) rfl ?_
        refine r_iload_n (pc' := 55) hx (hd 34) rfl 2 rfl rfl ?_
        refine r_iadd (pc' := 56) hx (hd 35) rfl ?_
        refine r_nmI (fun v15 => ?_)
        refine r_istore_n (pc' := 57) (L' := [(3, .int v15), (0, .ref t), (1, .int v6), (2, .int v10)]) hx (hd 36) rfl (by decide) rfl rfl ?_
        refine r_aload_n (pc' := 58) hx (hd 37) rfl 1 rfl rfl ?_
        refine r_get (pc' := 61) (v := .ref (t + 5)) hx (hd 38) fl_10_24 ht rfl (by decide) rfl ?_
        have h16 := hL.1 _ _ _ ht 2 5 33 6 rfl
        refine r_iconst (pc' := 62) (v := 1) hx (hd 39) (by decide) rfl ?_
        refine r_aald (pc' := 63) (k := 1) hx (hd 40) h16 rfl rfl rfl (by decide) (by decide) rfl ?_
        have h17 := hL.2 _ _ _ h16 5 1 1 20 39 rfl (1) (by decide)
        refine r_iload_n (pc' := 64) hx (hd 41) rfl 0 rfl rfl ?_
        refine r_iconst (pc' := 65) (v := 2) hx (hd 42) (by decide) rfl ?_
        refine r_gd (fun h19 => ?_)
        refine r_iast (pc' := 66) (k := ix v15) hx (hd 43) h17 h19 rfl rfl (fun M18 => ?_)
        refine r_aload_n (pc' := 67) hx (hd 44) rfl 1 rfl rfl ?_
        refine r_get (pc' := 70) (v := .ref (t + 5)) hx (hd 45) fl_10_24 ht rfl (by decide) rfl ?_
        have h20 := hL.1 _ _ _ ht 2 5 33 6 rfl
        refine r_iconst (pc' := 71) (v := 2) hx (hd 46) (by decide) rfl ?_
        refine r_aald (pc' := 72) (k := 2) hx (hd 47) h20 rfl rfl rfl (by decide) (by decide) rfl ?_
        have h21 := hL.2 _ _ _ h20 5 1 1 20 39 rfl (2) (by decide)
        refine r_iload_n (pc' := 73) hx (hd 48) rfl 0 rfl rfl ?_
        refine r_iconst (pc' := 74) (v := 2) hx (hd 49) (by decide) rfl ?_
        refine r_gd (fun h23 => ?_)
        refine r_iast (pc' := 75) (k := ix v15) hx (hd 50) h21 h23 rfl rfl (fun M22 => ?_)
        refine r_aload_n (pc' := 76) hx (hd 51) rfl 1 rfl rfl ?_
        refine r_get (pc' := 79) (v := .ref (t + 5)) hx (hd 52) fl_10_24 ht rfl (by decide) rfl ?_
        have h24 := hL.1 _ _ _ ht 2 5 33 6 rfl
        refine r_iconst (pc' := 80) (v := 3) hx (hd 53) (by decide) rfl ?_
        refine r_aald (pc' := 81) (k := 3) hx (hd 54) h24 rfl rfl rfl (by decide) (by decide) rfl ?_
        have h25 := hL.2 _ _ _ h24 5 1 1 20 39 rfl (3) (by decide)
        refine r_iload_n (pc' := 82) hx (hd 55) rfl 0 rfl rfl ?_
        refine r_iload_n (pc' := 83) hx (hd 56) rfl 3 rfl rfl ?_
        refine r_gd (fun h27 => ?_)
        refine r_iast (pc' := 84) (k := ix v15) hx (hd 57) h25 h27 rfl rfl (fun M26 => ?_)
        refine r_aload_n (pc' := 85) hx (hd 58) rfl 1 rfl rfl ?_
        refine r_get (pc' := 88) (v := .ref (t + 5)) hx (hd 59) fl_10_24 ht rfl (by decide) rfl ?_
        have h28 := hL.1 _ _ _ ht 2 5 33 6 rfl
        refine r_iconst (pc' := 89) (v := 4) hx (hd 60) (by decide) rfl ?_
        refine r_aald (pc' := 90) (k := 4) hx (hd 61) h28 rfl rfl rfl (by decide) (by decide) rfl ?_
        have h29 := hL.2 _ _ _ h28 5 1 1 20 39 rfl (4) (by decide)
        refine r_iload_n (pc' := 91) hx (hd 62) rfl 0 rfl rfl ?_
        refine r_iconst (pc' := 92) (v := 4) hx (hd 63) (by decide) rfl ?_
        refine r_iload_n (pc' := 93) hx (hd 64) rfl 3 rfl rfl ?_
        refine r_iconst (pc' := 94) (v := 2) hx (hd 65) (by decide) rfl ?_
        refine r_irem (pc' := 95) hx (hd 66) (by decide) rfl ?_
        refine r_iadd (pc' := 96) hx (hd 67) rfl ?_
        refine r_gd (fun h31 => ?_)
        refine r_iast (pc' := 97) (k := ix v15) hx (hd 68) h29 h31 rfl rfl (fun M30 => ?_)
        refine r_aload_n (pc' := 98) hx (hd 69) rfl 1 rfl rfl ?_
        refine r_get (pc' := 101) (v := .ref (t + 5)) hx (hd 70) fl_10_24 ht rfl (by decide) rfl ?_
        have h32 := hL.1 _ _ _ ht 2 5 33 6 rfl
        refine r_iconst (pc' := 102) (v := 5) hx (hd 71) (by decide) rfl ?_
        refine r_aald (pc' := 103) (k := 5) hx (hd 72) h32 rfl rfl rfl (by decide) (by decide) rfl ?_
        have h33 := hL.2 _ _ _ h32 5 1 1 20 39 rfl (5) (by decide)
        refine r_iload_n (pc' := 104) hx (hd 73) rfl 0 rfl rfl ?_
        refine r_iconst (pc' := 105) (v := 1) hx (hd 74) (by decide) rfl ?_
        refine r_gd (fun h35 => ?_)
        refine r_iast (pc' := 106) (k := ix v15) hx (hd 75) h33 h35 rfl rfl (fun M34 => ?_)
        refine r_iinc (pc' := 109) (v := 1) hx (hd 76) 3 rfl (by decide) (by decide) (fun v36 => [(2, .int v36), (3, .int v15), (0, .ref t), (1, .int v6)]) (fun _ => rfl) rfl (fun v36 => ?_)
        refine r_goto (tgt := 44) hx (hd 77) (by decide) ?_
        refine r_sub [2, 3, 0] rfl ?_
        exact ih13 v36 M34
  · skip
    refine r_aload_n (pc' := 14) hx (hd 8) rfl 0 rfl rfl ?_
    refine r_get (pc' := 17) (v := .ref (t + 4)) hx (hd 9) fl_10_18 ht rfl (by decide) rfl ?_
    have h37 := hL.1 _ _ _ ht 1 4 20 52 rfl
    refine r_iload_n (pc' := 18) hx (hd 10) rfl 1 rfl rfl ?_
    refine r_bipush (pc' := 20) (v := 10) hx (hd 11) (by decide) rfl ?_
    refine r_iload_n (pc' := 21) hx (hd 12) rfl 1 rfl rfl ?_
    refine r_iconst (pc' := 22) (v := 4) hx (hd 13) (by decide) rfl ?_
    refine r_idiv (pc' := 23) hx (hd 14) (by decide) rfl ?_
    refine r_iconst (pc' := 24) (v := 1) hx (hd 15) (by decide) rfl ?_
    refine r_iadd (pc' := 25) hx (hd 16) rfl ?_
    refine r_mmin (pc' := 28) hx (hd 17) ml_10_94 ⟨Nat.le_of_ble_eq_true rfl, Nat.le_of_ble_eq_true rfl⟩ (Nat.le_of_ble_eq_true rfl) rfl ?_
    refine r_gd (fun h39 => ?_)
    refine r_iast (pc' := 29) (k := ix v2) hx (hd 18) h37 h39 rfl rfl (fun M38 => ?_)
    refine r_iinc (pc' := 32) (v := 1) hx (hd 19) 1 rfl (by decide) (by decide) (fun v40 => [(1, .int v40), (0, .ref t)]) (fun _ => rfl) rfl (fun v40 => ?_)
    refine r_goto (tgt := 7) hx (hd 20) (by decide) ?_
    refine r_sub [1, 0] rfl ?_
    exact ih5 v40 M38
abbrev yX7_tell : MethodName := ({ cls := "CribbageRoom$Sums", name := "tell", desc := "(II)V" } : Jvm.MethodName)
def tbX7_tell : List (Nat × Instr × Nat) := [(0, .iload_n 1, 1), (1, .ifCond .lt 19, 3), (4, .iload_n 1, 1), (5, .aload_n 0, 1), (6, .getfield 9, 3), (9, .arraylength, 1), (10, .if_icmp .ge 10, 3), (13, .aload_n 0, 1), (14, .getfield 9, 3), (17, .iload_n 1, 1), (18, .iload_n 2, 1), (19, .iastore, 1), (20, .return_, 1)]
theorem dX7_tell : ∀ q ∈ tbX7_tell, decode prog_9_method_2_code q.1 = .ok q.2 := by decide +kernel
set_option maxRecDepth 20000 in
theorem cX7_tell (l : Launch) (w : WX) (hL : Lay w) (t : Nat) (ht : Wat w t 7 0) (p1 : Int32) (p2 : Int32) (M : Mem) : Ct l w yX7_tell prog_9_method_2_code 3 (Option.none : Option FieldType) 0 0 evU emU [.ref t, .int p1, .int p2] M (FX7_tell t p1 p2 M) := by
  refine ct_of (by decide) (Nat.le_of_ble_eq_true rfl) (fun x hl hx hb hz => ?_)
  subst hl
  have hd : ∀ i, DAt (xc x).code (tbX7_tell[i]?) := fun i => by rw [hb]; exact dat_of dX7_tell i
  show C x w (Qn x w evU emU) 3 0 [(0, .ref t), (1, .int p1), (2, .int p2)] [] M (FX7_tell t p1 p2 M)
  unfold FX7_tell
  refine r_iload_n (pc' := 1) hx (hd 0) rfl 1 rfl rfl ?_
  refine r_jn1 20 (fun M1 => []) (fun M1 => []) (fun M1 => M1) (fun M1 => ?_) (fun j2 hj3 => ?_)
  · skip
    exact r_vret hx (hd 12) rfl rfl hz
  refine r_if_lt (tgt := 20) (pc' := 4) hx (hd 1) (by decide) (fun _ => ?_) rfl (fun _ => ?_)
  · skip
    refine r_sub [] rfl ?_
    exact hj3 M
  · skip
    refine r_iload_n (pc' := 5) hx (hd 2) rfl 1 rfl rfl ?_
    refine r_aload_n (pc' := 6) hx (hd 3) rfl 0 rfl rfl ?_
    refine r_get (pc' := 9) (v := .ref (t + 1)) hx (hd 4) fl_7_9 ht rfl (by decide) rfl ?_
    have h4 := hL.1 _ _ _ ht 0 1 20 19 rfl
    refine r_alen (pc' := 10) (v := 19) hx (hd 5) h4 (by decide) rfl ?_
    refine r_icmp_ge (tgt := 20) (pc' := 13) hx (hd 6) (by decide) (fun _ => ?_) rfl (fun _ => ?_)
    · skip
      refine r_sub [] rfl ?_
      exact hj3 M
    · skip
      refine r_aload_n (pc' := 14) hx (hd 7) rfl 0 rfl rfl ?_
      refine r_get (pc' := 17) (v := .ref (t + 1)) hx (hd 8) fl_7_9 ht rfl (by decide) rfl ?_
      have h5 := hL.1 _ _ _ ht 0 1 20 19 rfl
      refine r_iload_n (pc' := 18) hx (hd 9) rfl 1 rfl rfl ?_
      refine r_iload_n (pc' := 19) hx (hd 10) rfl 2 rfl rfl ?_
      refine r_gd (fun h7 => ?_)
      refine r_iast (pc' := 20) (k := ix p1) hx (hd 11) h5 h7 rfl rfl (fun M6 => ?_)
      refine r_sub [] rfl ?_
      exact hj3 M6
abbrev yX9_at : MethodName := ({ cls := "CribbageRoom$Text", name := "at", desc := "(II)I" } : Jvm.MethodName)
def tbX9_at : List (Nat × Instr × Nat) := [(0, .iload_n 1, 1), (1, .bipush 6, 2), (3, .imul, 1), (4, .iload_n 2, 1), (5, .iadd, 1), (6, .istore_n 3, 1), (7, .iload_n 3, 1), (8, .ifCond .lt 21, 3), (11, .iload_n 3, 1), (12, .aload_n 0, 1), (13, .getfield 15, 3), (16, .arraylength, 1), (17, .if_icmp .ge 12, 3), (20, .aload_n 0, 1), (21, .getfield 15, 3), (24, .iload_n 3, 1), (25, .iaload, 1), (26, .goto 4, 3), (29, .iconst 0, 1), (30, .ireturn, 1)]
theorem dX9_at : ∀ q ∈ tbX9_at, decode prog_11_method_3_code q.1 = .ok q.2 := by decide +kernel
set_option maxRecDepth 20000 in
theorem cX9_at (l : Launch) (w : WX) (hL : Lay w) (t : Nat) (ht : Wat w t 9 0) (p1 : Int32) (p2 : Int32) (M : Mem) : Ct l w yX9_at prog_11_method_3_code 4 (Option.some FieldType.int) 0 0 evI (emC M) [.ref t, .int p1, .int p2] M (FX9_at t p1 p2 M) := by
  refine ct_of (by decide) (Nat.le_of_ble_eq_true rfl) (fun x hl hx hb hz => ?_)
  subst hl
  have hd : ∀ i, DAt (xc x).code (tbX9_at[i]?) := fun i => by rw [hb]; exact dat_of dX9_at i
  show C x w (Qn x w evI (emC M)) 4 0 [(0, .ref t), (1, .int p1), (2, .int p2)] [] M (FX9_at t p1 p2 M)
  unfold FX9_at
  refine r_iload_n (pc' := 1) hx (hd 0) rfl 1 rfl rfl ?_
  refine r_bipush (pc' := 3) (v := 6) hx (hd 1) (by decide) rfl ?_
  refine r_imul (pc' := 4) hx (hd 2) rfl ?_
  refine r_iload_n (pc' := 5) hx (hd 3) rfl 2 rfl rfl ?_
  refine r_iadd (pc' := 6) hx (hd 4) rfl ?_
  refine r_nmI (fun v1 => ?_)
  refine r_istore_n (pc' := 7) (L' := [(3, .int v1), (0, .ref t), (1, .int p1), (2, .int p2)]) hx (hd 5) rfl (by decide) rfl rfl ?_
  refine r_iload_n (pc' := 8) hx (hd 6) rfl 0 rfl rfl ?_
  refine r_jn1 30 (fun v2 => []) (fun v2 => [.int v2]) (fun v2 => M) (fun v2 => ?_) (fun j3 hj4 => ?_)
  · skip
    exact r_iret hx (hd 19) rfl rfl hz
  refine r_jn0 29 ([]) ([]) (M) (?_) (fun j5 hj6 => ?_)
  · skip
    refine r_iconst (pc' := 30) (v := 0) hx (hd 18) (by decide) rfl ?_
    exact hj4 0
  refine r_if_lt (tgt := 29) (pc' := 11) hx (hd 7) (by decide) (fun _ => ?_) rfl (fun _ => ?_)
  · skip
    refine r_sub [] rfl ?_
    exact hj6
  · skip
    refine r_iload_n (pc' := 12) hx (hd 8) rfl 0 rfl rfl ?_
    refine r_aload_n (pc' := 13) hx (hd 9) rfl 1 rfl rfl ?_
    refine r_get (pc' := 16) (v := .ref (t + 2)) hx (hd 10) fl_9_15 ht rfl (by decide) rfl ?_
    have h7 := hL.1 _ _ _ ht 1 2 23 0 rfl
    refine r_alenD (pc' := 17) hx (hd 11) h7 rfl ?_
    refine r_icmp_ge (tgt := 29) (pc' := 20) hx (hd 12) (by decide) (fun _ => ?_) rfl (fun _ => ?_)
    · skip
      refine r_sub [] rfl ?_
      exact hj6
    · skip
      refine r_aload_n (pc' := 21) hx (hd 13) rfl 1 rfl rfl ?_
      refine r_get (pc' := 24) (v := .ref (t + 2)) hx (hd 14) fl_9_15 ht rfl (by decide) rfl ?_
      have h8 := hL.1 _ _ _ ht 1 2 23 0 rfl
      refine r_iload_n (pc' := 25) hx (hd 15) rfl 0 rfl rfl ?_
      refine r_gd (fun h9 => ?_)
      refine r_ialdD (pc' := 26) (k := ix v1) hx (hd 16) h8 h9 rfl rfl ?_
      refine r_goto (tgt := 30) hx (hd 17) (by decide) ?_
      refine r_sub [] rfl ?_
      exact hj4 (mI M (t + 2) (ix v1))
abbrev yX7_push : MethodName := ({ cls := "CribbageRoom$Sums", name := "push", desc := "(J)V" } : Jvm.MethodName)
def tbX7_push : List (Nat × Instr × Nat) := [(0, .aload_n 0, 1), (1, .getfield 39, 3), (4, .bipush 32, 2), (6, .if_icmp .ge 23, 3), (9, .aload_n 0, 1), (10, .getfield 15, 3), (13, .aload_n 0, 1), (14, .getfield 39, 3), (17, .lload_n 1, 1), (18, .lastore, 1), (19, .aload_n 0, 1), (20, .dup, 1), (21, .getfield 39, 3), (24, .iconst 1, 1), (25, .iadd, 1), (26, .putfield 39, 3), (29, .return_, 1)]
theorem dX7_push : ∀ q ∈ tbX7_push, decode prog_9_method_7_code q.1 = .ok q.2 := by decide +kernel
set_option maxRecDepth 20000 in
theorem cX7_push (l : Launch) (w : WX) (hL : Lay w) (t : Nat) (ht : Wat w t 7 0) (p1 : Int64) (M : Mem) : Ct l w yX7_push prog_9_method_7_code 3 (Option.none : Option FieldType) 0 0 evU emU [.ref t, .long p1] M (FX7_push t p1 M) := by
  refine ct_of (by decide) (Nat.le_of_ble_eq_true rfl) (fun x hl hx hb hz => ?_)
  subst hl
  have hd : ∀ i, DAt (xc x).code (tbX7_push[i]?) := fun i => by rw [hb]; exact dat_of dX7_push i
  show C x w (Qn x w evU emU) 3 0 [(0, .ref t), (1, .long p1)] [] M (FX7_push t p1 M)
  unfold FX7_push
  refine r_aload_n (pc' := 1) hx (hd 0) rfl 0 rfl rfl ?_
  refine r_get (pc' := 4) (v := .int (mI M t 4)) hx (hd 1) fl_7_39 ht rfl (by decide) rfl ?_
  refine r_bipush (pc' := 6) (v := 32) hx (hd 2) (by decide) rfl ?_
  refine r_jn1 29 (fun M1 => []) (fun M1 => []) (fun M1 => M1) (fun M1 => ?_) (fun j2 hj3 => ?_)
  · skip
    exact r_vret hx (hd 16) rfl rfl hz
  refine r_icmp_ge (tgt := 29) (pc' := 9) hx (hd 3) (by decide) (fun _ => ?_) rfl (fun _ => ?_)
  · skip
    refine r_sub [] rfl ?_
    exact hj3 M
  · skip
    refine r_aload_n (pc' := 10) hx (hd 4) rfl 0 rfl rfl ?_
    refine r_get (pc' := 13) (v := .ref (t + 2)) hx (hd 5) fl_7_15 ht rfl (by decide) rfl ?_
    have h4 := hL.1 _ _ _ ht 1 2 21 32 rfl
    refine r_aload_n (pc' := 14) hx (hd 6) rfl 0 rfl rfl ?_
    refine r_get (pc' := 17) (v := .int (mI M t 4)) hx (hd 7) fl_7_39 ht rfl (by decide) rfl ?_
    refine r_lload_n (pc' := 18) hx (hd 8) rfl 1 rfl rfl ?_
    refine r_gd (fun h6 => ?_)
    refine r_last (pc' := 19) (k := ix (mI M t 4)) hx (hd 9) h4 h6 rfl rfl (fun M5 => ?_)
    refine r_aload_n (pc' := 20) hx (hd 10) rfl 0 rfl rfl ?_
    refine r_dup (pc' := 21) hx (hd 11) rfl rfl ?_
    refine r_get (pc' := 24) (v := .int (mI M5 t 4)) hx (hd 12) fl_7_39 ht rfl (by decide) rfl ?_
    refine r_iconst (pc' := 25) (v := 1) hx (hd 13) (by decide) rfl ?_
    refine r_iadd (pc' := 26) hx (hd 14) rfl ?_
    refine r_putI (pc' := 29) hx (hd 15) fp_7_39 ht rfl (by decide) rfl (fun M7 => ?_)
    refine r_sub [] rfl ?_
    exact hj3 M7
abbrev yX7_told : MethodName := ({ cls := "CribbageRoom$Sums", name := "told", desc := "(I)I" } : Jvm.MethodName)
def tbX7_told : List (Nat × Instr × Nat) := [(0, .iload_n 1, 1), (1, .ifCond .lt 21, 3), (4, .iload_n 1, 1), (5, .aload_n 0, 1), (6, .getfield 9, 3), (9, .arraylength, 1), (10, .if_icmp .ge 12, 3), (13, .aload_n 0, 1), (14, .getfield 9, 3), (17, .iload_n 1, 1), (18, .iaload, 1), (19, .goto 4, 3), (22, .iconst (-1), 1), (23, .ireturn, 1)]
theorem dX7_told : ∀ q ∈ tbX7_told, decode prog_9_method_3_code q.1 = .ok q.2 := by decide +kernel
set_option maxRecDepth 20000 in
theorem cX7_told (l : Launch) (w : WX) (hL : Lay w) (t : Nat) (ht : Wat w t 7 0) (p1 : Int32) (M : Mem) : Ct l w yX7_told prog_9_method_3_code 2 (Option.some FieldType.int) 0 0 evI (emC M) [.ref t, .int p1] M (FX7_told t p1 M) := by
  refine ct_of (by decide) (Nat.le_of_ble_eq_true rfl) (fun x hl hx hb hz => ?_)
  subst hl
  have hd : ∀ i, DAt (xc x).code (tbX7_told[i]?) := fun i => by rw [hb]; exact dat_of dX7_told i
  show C x w (Qn x w evI (emC M)) 2 0 [(0, .ref t), (1, .int p1)] [] M (FX7_told t p1 M)
  unfold FX7_told
  refine r_iload_n (pc' := 1) hx (hd 0) rfl 1 rfl rfl ?_
  refine r_jn1 23 (fun v1 => []) (fun v1 => [.int v1]) (fun v1 => M) (fun v1 => ?_) (fun j2 hj3 => ?_)
  · skip
    exact r_iret hx (hd 13) rfl rfl hz
  refine r_jn0 22 ([]) ([]) (M) (?_) (fun j4 hj5 => ?_)
  · skip
    refine r_iconst (pc' := 23) (v := (-1)) hx (hd 12) (by decide) rfl ?_
    exact hj3 (-1)
  refine r_if_lt (tgt := 22) (pc' := 4) hx (hd 1) (by decide) (fun _ => ?_) rfl (fun _ => ?_)
  · skip
    refine r_sub [] rfl ?_
    exact hj5
  · skip
    refine r_iload_n (pc' := 5) hx (hd 2) rfl 1 rfl rfl ?_
    refine r_aload_n (pc' := 6) hx (hd 3) rfl 0 rfl rfl ?_
    refine r_get (pc' := 9) (v := .ref (t + 1)) hx (hd 4) fl_7_9 ht rfl (by decide) rfl ?_
    have h6 := hL.1 _ _ _ ht 0 1 20 19 rfl
    refine r_alen (pc' := 10) (v := 19) hx (hd 5) h6 (by decide) rfl ?_
    refine r_icmp_ge (tgt := 22) (pc' := 13) hx (hd 6) (by decide) (fun _ => ?_) rfl (fun _ => ?_)
    · skip
      refine r_sub [] rfl ?_
      exact hj5
    · skip
      refine r_aload_n (pc' := 14) hx (hd 7) rfl 0 rfl rfl ?_
      refine r_get (pc' := 17) (v := .ref (t + 1)) hx (hd 8) fl_7_9 ht rfl (by decide) rfl ?_
      have h7 := hL.1 _ _ _ ht 0 1 20 19 rfl
      refine r_iload_n (pc' := 18) hx (hd 9) rfl 1 rfl rfl ?_
      refine r_gd (fun h8 => ?_)
      refine r_iald (pc' := 19) (k := ix p1) hx (hd 10) h7 h8 rfl rfl ?_
      refine r_goto (tgt := 23) hx (hd 11) (by decide) ?_
      refine r_sub [] rfl ?_
      exact hj3 (mI M (t + 1) (ix p1))
abbrev yX7_pop : MethodName := ({ cls := "CribbageRoom$Sums", name := "pop", desc := "()J" } : Jvm.MethodName)
def tbX7_pop : List (Nat × Instr × Nat) := [(0, .aload_n 0, 1), (1, .getfield 39, 3), (4, .ifCond .ne 5, 3), (7, .lconst 0, 1), (8, .lreturn, 1), (9, .aload_n 0, 1), (10, .dup, 1), (11, .getfield 39, 3), (14, .iconst 1, 1), (15, .isub, 1), (16, .putfield 39, 3), (19, .aload_n 0, 1), (20, .getfield 15, 3), (23, .aload_n 0, 1), (24, .getfield 39, 3), (27, .laload, 1), (28, .lreturn, 1)]
theorem dX7_pop : ∀ q ∈ tbX7_pop, decode prog_9_method_8_code q.1 = .ok q.2 := by decide +kernel
set_option maxRecDepth 20000 in
theorem cX7_pop (l : Launch) (w : WX) (hL : Lay w) (t : Nat) (ht : Wat w t 7 0) (M : Mem) : Ct l w yX7_pop prog_9_method_8_code 1 (Option.some FieldType.long) 0 0 evJM emM [.ref t] M (FX7_pop t M) := by
  refine ct_of (by decide) (Nat.le_of_ble_eq_true rfl) (fun x hl hx hb hz => ?_)
  subst hl
  have hd : ∀ i, DAt (xc x).code (tbX7_pop[i]?) := fun i => by rw [hb]; exact dat_of dX7_pop i
  show C x w (Qn x w evJM emM) 1 0 [(0, .ref t)] [] M (FX7_pop t M)
  unfold FX7_pop
  refine r_aload_n (pc' := 1) hx (hd 0) rfl 0 rfl rfl ?_
  refine r_get (pc' := 4) (v := .int (mI M t 4)) hx (hd 1) fl_7_39 ht rfl (by decide) rfl ?_
  refine r_if_ne (tgt := 9) (pc' := 7) hx (hd 2) (by decide) (fun _ => ?_) rfl (fun _ => ?_)
  · skip
    refine r_aload_n (pc' := 10) hx (hd 5) rfl 0 rfl rfl ?_
    refine r_dup (pc' := 11) hx (hd 6) rfl rfl ?_
    refine r_get (pc' := 14) (v := .int (mI M t 4)) hx (hd 7) fl_7_39 ht rfl (by decide) rfl ?_
    refine r_iconst (pc' := 15) (v := 1) hx (hd 8) (by decide) rfl ?_
    refine r_isub (pc' := 16) hx (hd 9) rfl ?_
    refine r_putI (pc' := 19) hx (hd 10) fp_7_39 ht rfl (by decide) rfl (fun M1 => ?_)
    refine r_aload_n (pc' := 20) hx (hd 11) rfl 0 rfl rfl ?_
    refine r_get (pc' := 23) (v := .ref (t + 2)) hx (hd 12) fl_7_15 ht rfl (by decide) rfl ?_
    have h2 := hL.1 _ _ _ ht 1 2 21 32 rfl
    refine r_aload_n (pc' := 24) hx (hd 13) rfl 0 rfl rfl ?_
    refine r_get (pc' := 27) (v := .int (mI M1 t 4)) hx (hd 14) fl_7_39 ht rfl (by decide) rfl ?_
    refine r_gd (fun h3 => ?_)
    refine r_lald (pc' := 28) (k := ix (mI M1 t 4)) hx (hd 15) h2 h3 rfl rfl ?_
    exact r_lret hx (hd 16) rfl rfl hz
  · skip
    refine r_lconst (pc' := 8) (v := 0) hx (hd 3) (by decide) rfl ?_
    exact r_lret hx (hd 4) rfl rfl hz
abbrev yX7_join : MethodName := ({ cls := "CribbageRoom$Sums", name := "join", desc := "(I)Z" } : Jvm.MethodName)
def tbX7_join : List (Nat × Instr × Nat) := [(0, .aload_n 0, 1), (1, .getfield 39, 3), (4, .iconst 2, 1), (5, .if_icmp .ge 5, 3), (8, .iconst 0, 1), (9, .ireturn, 1), (10, .aload_n 0, 1), (11, .getfield 15, 3), (14, .aload_n 0, 1), (15, .getfield 39, 3), (18, .iconst 2, 1), (19, .isub, 1), (20, .laload, 1), (21, .lstore_n 2, 1), (22, .aload_n 0, 1), (23, .getfield 15, 3), (26, .aload_n 0, 1), (27, .getfield 39, 3), (30, .iconst 1, 1), (31, .isub, 1), (32, .laload, 1), (33, .lstore 4, 2), (35, .lload 4, 2), (37, .lconst 0, 1), (38, .lcmp, 1), (39, .ifCond .ne 16, 3), (42, .iload_n 1, 1), (43, .iconst 5, 1), (44, .if_icmp .eq 9, 3), (47, .iload_n 1, 1), (48, .bipush 6, 2), (50, .if_icmp .ne 5, 3), (53, .iconst 0, 1), (54, .ireturn, 1), (55, .iload_n 1, 1), (56, .tableswitch 145 2 8 #[44, 53, 62, 71, 91, 111, 128], 44), (100, .lload_n 2, 1), (101, .lload 4, 2), (103, .ladd, 1), (104, .lstore 6, 2), (106, .goto 109, 3), (109, .lload_n 2, 1), (110, .lload 4, 2), (112, .lsub, 1), (113, .lstore 6, 2), (115, .goto 100, 3), (118, .lload_n 2, 1), (119, .lload 4, 2), (121, .lmul, 1), (122, .lstore 6, 2), (124, .goto 91, 3), (127, .lload 4, 2), (129, .lconst 0, 1), (130, .lcmp, 1), (131, .ifCond .ne 7, 3), (134, .lconst 0, 1), (135, .goto 7, 3), (138, .lload_n 2, 1), (139, .lload 4, 2), (141, .ldiv, 1), (142, .lstore 6, 2), (144, .goto 71, 3), (147, .lload 4, 2), (149, .lconst 0, 1), (150, .lcmp, 1), (151, .ifCond .ne 7, 3), (154, .lconst 0, 1), (155, .goto 7, 3), (158, .lload_n 2, 1), (159, .lload 4, 2), (161, .lrem, 1), (162, .lstore 6, 2), (164, .goto 51, 3), (167, .lload_n 2, 1), (168, .lload 4, 2), (170, .lcmp, 1), (171, .ifCond .ge 7, 3), (174, .lconst 1, 1), (175, .goto 4, 3), (178, .lconst 0, 1), (179, .lstore 6, 2), (181, .goto 34, 3), (184, .lload_n 2, 1), (185, .lload 4, 2), (187, .lcmp, 1), (188, .ifCond .le 7, 3), (191, .lconst 1, 1), (192, .goto 4, 3), (195, .lconst 0, 1), (196, .lstore 6, 2), (198, .goto 17, 3), (201, .lload_n 2, 1), (202, .lload 4, 2), (204, .lcmp, 1), (205, .ifCond .ne 7, 3), (208, .lconst 1, 1), (209, .goto 4, 3), (212, .lconst 0, 1), (213, .lstore 6, 2), (215, .aload_n 0, 1), (216, .dup, 1), (217, .getfield 39, 3), (220, .iconst 1, 1), (221, .isub, 1), (222, .putfield 39, 3), (225, .aload_n 0, 1), (226, .getfield 15, 3), (229, .aload_n 0, 1), (230, .getfield 39, 3), (233, .iconst 1, 1), (234, .isub, 1), (235, .lload 6, 2), (237, .lastore, 1), (238, .lload 6, 2), (240, .ldc2_w 61, 3), (243, .lcmp, 1), (244, .ifCond .gt 16, 3), (247, .lload 6, 2), (249, .ldc2_w 63, 3), (252, .lcmp, 1), (253, .ifCond .lt 7, 3), (256, .iconst 1, 1), (257, .goto 4, 3), (260, .iconst 0, 1), (261, .ireturn, 1)]
theorem dX7_join : ∀ q ∈ tbX7_join, decode prog_9_method_9_code q.1 = .ok q.2 := by decide +kernel
set_option maxRecDepth 20000 in
theorem cX7_join (l : Launch) (w : WX) (hL : Lay w) (t : Nat) (ht : Wat w t 7 0) (p1 : Int32) (M : Mem) : Ct l w yX7_join prog_9_method_9_code 8 (Option.some FieldType.boolean) 0 0 evIM emM [.ref t, .int p1] M (FX7_join t p1 M) := by
  refine ct_of (by decide) (Nat.le_of_ble_eq_true rfl) (fun x hl hx hb hz => ?_)
  subst hl
  have hd : ∀ i, DAt (xc x).code (tbX7_join[i]?) := fun i => by rw [hb]; exact dat_of dX7_join i
  show C x w (Qn x w evIM emM) 8 0 [(0, .ref t), (1, .int p1)] [] M (FX7_join t p1 M)
  unfold FX7_join
  refine r_aload_n (pc' := 1) hx (hd 0) rfl 0 rfl rfl ?_
  refine r_get (pc' := 4) (v := .int (mI M t 4)) hx (hd 1) fl_7_39 ht rfl (by decide) rfl ?_
  refine r_iconst (pc' := 5) (v := 2) hx (hd 2) (by decide) rfl ?_
  refine r_icmp_ge (tgt := 10) (pc' := 8) hx (hd 3) (by decide) (fun _ => ?_) rfl (fun _ => ?_)
  · skip
    refine r_aload_n (pc' := 11) hx (hd 6) rfl 0 rfl rfl ?_
    refine r_get (pc' := 14) (v := .ref (t + 2)) hx (hd 7) fl_7_15 ht rfl (by decide) rfl ?_
    have h1 := hL.1 _ _ _ ht 1 2 21 32 rfl
    refine r_aload_n (pc' := 15) hx (hd 8) rfl 0 rfl rfl ?_
    refine r_get (pc' := 18) (v := .int (mI M t 4)) hx (hd 9) fl_7_39 ht rfl (by decide) rfl ?_
    refine r_iconst (pc' := 19) (v := 2) hx (hd 10) (by decide) rfl ?_
    refine r_isub (pc' := 20) hx (hd 11) rfl ?_
    refine r_gd (fun h2 => ?_)
    refine r_lald (pc' := 21) (k := ix ((mI M t 4) - 2)) hx (hd 12) h1 h2 rfl rfl ?_
    refine r_nmJ (fun v3 => ?_)
    refine r_lstore_n (pc' := 22) (L' := [(2, .long v3), (0, .ref t), (1, .int p1)]) hx (hd 13) rfl (by decide) rfl rfl ?_
    refine r_aload_n (pc' := 23) hx (hd 14) rfl 1 rfl rfl ?_
    refine r_get (pc' := 26) (v := .ref (t + 2)) hx (hd 15) fl_7_15 ht rfl (by decide) rfl ?_
    have h4 := hL.1 _ _ _ ht 1 2 21 32 rfl
    refine r_aload_n (pc' := 27) hx (hd 16) rfl 1 rfl rfl ?_
    refine r_get (pc' := 30) (v := .int (mI M t 4)) hx (hd 17) fl_7_39 ht rfl (by decide) rfl ?_
    refine r_iconst (pc' := 31) (v := 1) hx (hd 18) (by decide) rfl ?_
    refine r_isub (pc' := 32) hx (hd 19) rfl ?_
    refine r_gd (fun h5 => ?_)
    refine r_lald (pc' := 33) (k := ix ((mI M t 4) - 1)) hx (hd 20) h4 h5 rfl rfl ?_
    refine r_nmJ (fun v6 => ?_)
    refine r_lstore (pc' := 35) (L' := [(4, .long v6), (2, .long v3), (0, .ref t), (1, .int p1)]) hx (hd 21) (by decide) rfl rfl ?_
    refine r_lload (pc' := 37) hx (hd 22) 0 rfl rfl ?_
    refine r_lconst (pc' := 38) (v := 0) hx (hd 23) (by decide) rfl ?_
    refine r_jn0 55 ([(0, .ref t), (1, .int p1), (2, .long v3), (4, .long v6)]) ([]) (M) (?_) (fun j7 hj8 => ?_)
    · skip
      refine r_iload_n (pc' := 56) hx (hd 34) rfl 1 rfl rfl ?_
      refine r_jn1 215 (fun v9 => [(0, .ref t), (6, .long v9)]) (fun v9 => []) (fun v9 => M) (fun v9 => ?_) (fun j10 hj11 => ?_)
      · skip
        refine r_aload_n (pc' := 216) hx (hd 99) rfl 0 rfl rfl ?_
        refine r_dup (pc' := 217) hx (hd 100) rfl rfl ?_
        refine r_get (pc' := 220) (v := .int (mI M t 4)) hx (hd 101) fl_7_39 ht rfl (by decide) rfl ?_
        refine r_iconst (pc' := 221) (v := 1) hx (hd 102) (by decide) rfl ?_
        refine r_isub (pc' := 222) hx (hd 103) rfl ?_
        refine r_putI (pc' := 225) hx (hd 104) fp_7_39 ht rfl (by decide) rfl (fun M12 => ?_)
        refine r_aload_n (pc' := 226) hx (hd 105) rfl 0 rfl rfl ?_
        refine r_get (pc' := 229) (v := .ref (t + 2)) hx (hd 106) fl_7_15 ht rfl (by decide) rfl ?_
        have h13 := hL.1 _ _ _ ht 1 2 21 32 rfl
        refine r_aload_n (pc' := 230) hx (hd 107) rfl 0 rfl rfl ?_
        refine r_get (pc' := 233) (v := .int (mI M12 t 4)) hx (hd 108) fl_7_39 ht rfl (by decide) rfl ?_
        refine r_iconst (pc' := 234) (v := 1) hx (hd 109) (by decide) rfl ?_
        refine r_isub (pc' := 235) hx (hd 110) rfl ?_
        refine r_lload (pc' := 237) hx (hd 111) 1 rfl rfl ?_
        refine r_gd (fun h15 => ?_)
        refine r_last (pc' := 238) (k := ix ((mI M12 t 4) - 1)) hx (hd 112) h13 h15 rfl rfl (fun M14 => ?_)
        refine r_lload (pc' := 240) hx (hd 113) 1 rfl rfl ?_
        refine r_ldc2 (pc' := 243) hx (hd 114) kc_7_61 rfl ?_
        refine r_jn1 261 (fun v16 => []) (fun v16 => [.int v16]) (fun v16 => M14) (fun v16 => ?_) (fun j17 hj18 => ?_)
        · skip
          refine r_gd (fun h19 => ?_)
          exact r_zret hx (hd 124) h19 rfl rfl hz
        refine r_jn0 260 ([]) ([]) (M14) (?_) (fun j20 hj21 => ?_)
        · skip
          refine r_iconst (pc' := 261) (v := 0) hx (hd 123) (by decide) rfl ?_
          exact hj18 0
        refine r_lcmp_gt (tgt := 260) (pc' := 247) hx (hd 115) (hd 116) (by decide) (fun _ => ?_) rfl (fun _ => ?_)
        · skip
          refine r_sub [] rfl ?_
          exact hj21
        · skip
          refine r_lload (pc' := 249) hx (hd 117) 1 rfl rfl ?_
          refine r_ldc2 (pc' := 252) hx (hd 118) kc_7_63 rfl ?_
          refine r_lcmp_lt (tgt := 260) (pc' := 256) hx (hd 119) (hd 120) (by decide) (fun _ => ?_) rfl (fun _ => ?_)
          · skip
            refine r_sub [] rfl ?_
            exact hj21
          · skip
            refine r_iconst (pc' := 257) (v := 1) hx (hd 121) (by decide) rfl ?_
            refine r_goto (tgt := 261) hx (hd 122) (by decide) ?_
            refine r_sub [] rfl ?_
            exact hj18 1
      refine r_table (td := 201) [100, 109, 118, 127, 147, 167, 184] hx (hd 35) rfl rfl rfl (by decide) ?_ ?_
      · skip
        refine r_lload_n (pc' := 202) hx (hd 91) rfl 2 rfl rfl ?_
        refine r_lload (pc' := 204) hx (hd 92) 3 rfl rfl ?_
        refine r_jn1 213 (fun v22 => [(0, .ref t)]) (fun v22 => [.long v22]) (fun v22 => M) (fun v22 => ?_) (fun j23 hj24 => ?_)
        · skip
          refine r_lstore (pc' := 215) (L' := [(6, .long v22), (0, .ref t)]) hx (hd 98) (by decide) rfl rfl ?_
          refine r_sub [1, 0] rfl ?_
          exact hj11 v22
        refine r_lcmp_ne (tgt := 212) (pc' := 208) hx (hd 93) (hd 94) (by decide) (fun _ => ?_) rfl (fun _ => ?_)
        · skip
          refine r_lconst (pc' := 213) (v := 0) hx (hd 97) (by decide) rfl ?_
          refine r_sub [0] rfl ?_
          exact hj24 0
        · skip
          refine r_lconst (pc' := 209) (v := 1) hx (hd 95) (by decide) rfl ?_
          refine r_goto (tgt := 213) hx (hd 96) (by decide) ?_
          refine r_sub [0] rfl ?_
          exact hj24 1
      refine ⟨?_, ?_, ?_, ?_, ?_, ?_, ?_,  trivial⟩
      · skip
        refine r_lload_n (pc' := 101) hx (hd 36) rfl 2 rfl rfl ?_
        refine r_lload (pc' := 103) hx (hd 37) 3 rfl rfl ?_
        refine r_ladd (pc' := 104) hx (hd 38) rfl ?_
        refine r_nmJ (fun v25 => ?_)
        refine r_lstore (pc' := 106) (L' := [(6, .long v25), (0, .ref t), (1, .int p1), (2, .long v3), (4, .long v6)]) hx (hd 39) (by decide) rfl rfl ?_
        refine r_goto (tgt := 215) hx (hd 40) (by decide) ?_
        refine r_sub [1, 0] rfl ?_
        exact hj11 v25
      · skip
        refine r_lload_n (pc' := 110) hx (hd 41) rfl 2 rfl rfl ?_
        refine r_lload (pc' := 112) hx (hd 42) 3 rfl rfl ?_
        refine r_lsub (pc' := 113) hx (hd 43) rfl ?_
        refine r_nmJ (fun v26 => ?_)
        refine r_lstore (pc' := 115) (L' := [(6, .long v26), (0, .ref t), (1, .int p1), (2, .long v3), (4, .long v6)]) hx (hd 44) (by decide) rfl rfl ?_
        refine r_goto (tgt := 215) hx (hd 45) (by decide) ?_
        refine r_sub [1, 0] rfl ?_
        exact hj11 v26
      · skip
        refine r_lload_n (pc' := 119) hx (hd 46) rfl 2 rfl rfl ?_
        refine r_lload (pc' := 121) hx (hd 47) 3 rfl rfl ?_
        refine r_lmul (pc' := 122) hx (hd 48) rfl ?_
        refine r_nmJ (fun v27 => ?_)
        refine r_lstore (pc' := 124) (L' := [(6, .long v27), (0, .ref t), (1, .int p1), (2, .long v3), (4, .long v6)]) hx (hd 49) (by decide) rfl rfl ?_
        refine r_goto (tgt := 215) hx (hd 50) (by decide) ?_
        refine r_sub [1, 0] rfl ?_
        exact hj11 v27
      · skip
        refine r_lload (pc' := 129) hx (hd 51) 3 rfl rfl ?_
        refine r_lconst (pc' := 130) (v := 0) hx (hd 52) (by decide) rfl ?_
        refine r_jn1 142 (fun v28 => [(0, .ref t)]) (fun v28 => [.long v28]) (fun v28 => M) (fun v28 => ?_) (fun j29 hj30 => ?_)
        · skip
          refine r_lstore (pc' := 144) (L' := [(6, .long v28), (0, .ref t)]) hx (hd 60) (by decide) rfl rfl ?_
          refine r_goto (tgt := 215) hx (hd 61) (by decide) ?_
          refine r_sub [1, 0] rfl ?_
          exact hj11 v28
        refine r_lcmp_ne (tgt := 138) (pc' := 134) hx (hd 53) (hd 54) (by decide) (fun _ => ?_) rfl (fun _ => ?_)
        · skip
          refine r_lload_n (pc' := 139) hx (hd 57) rfl 2 rfl rfl ?_
          refine r_lload (pc' := 141) hx (hd 58) 3 rfl rfl ?_
          refine r_gd (fun h31 => ?_)
          refine r_ldiv (pc' := 142) hx (hd 59) (gd_neL h31) rfl ?_
          refine r_sub [0] rfl ?_
          exact hj30 (v3 / v6)
        · skip
          refine r_lconst (pc' := 135) (v := 0) hx (hd 55) (by decide) rfl ?_
          refine r_goto (tgt := 142) hx (hd 56) (by decide) ?_
          refine r_sub [0] rfl ?_
          exact hj30 0
      · skip
        refine r_lload (pc' := 149) hx (hd 62) 3 rfl rfl ?_
        refine r_lconst (pc' := 150) (v := 0) hx (hd 63) (by decide) rfl ?_
        refine r_jn1 162 (fun v32 => [(0, .ref t)]) (fun v32 => [.long v32]) (fun v32 => M) (fun v32 => ?_) (fun j33 hj34 => ?_)
        · skip
          refine r_lstore (pc' := 164) (L' := [(6, .long v32), (0, .ref t)]) hx (hd 71) (by decide) rfl rfl ?_
          refine r_goto (tgt := 215) hx (hd 72) (by decide) ?_
          refine r_sub [1, 0] rfl ?_
          exact hj11 v32
        refine r_lcmp_ne (tgt := 158) (pc' := 154) hx (hd 64) (hd 65) (by decide) (fun _ => ?_) rfl (fun _ => ?_)
        · skip
          refine r_lload_n (pc' := 159) hx (hd 68) rfl 2 rfl rfl ?_
          refine r_lload (pc' := 161) hx (hd 69) 3 rfl rfl ?_
          refine r_gd (fun h35 => ?_)
          refine r_lrem (pc' := 162) hx (hd 70) (gd_neL h35) rfl ?_
          refine r_sub [0] rfl ?_
          exact hj34 (lrm v3 v6)
        · skip
          refine r_lconst (pc' := 155) (v := 0) hx (hd 66) (by decide) rfl ?_
          refine r_goto (tgt := 162) hx (hd 67) (by decide) ?_
          refine r_sub [0] rfl ?_
          exact hj34 0
      · skip
        refine r_lload_n (pc' := 168) hx (hd 73) rfl 2 rfl rfl ?_
        refine r_lload (pc' := 170) hx (hd 74) 3 rfl rfl ?_
        refine r_jn1 179 (fun v36 => [(0, .ref t)]) (fun v36 => [.long v36]) (fun v36 => M) (fun v36 => ?_) (fun j37 hj38 => ?_)
        · skip
          refine r_lstore (pc' := 181) (L' := [(6, .long v36), (0, .ref t)]) hx (hd 80) (by decide) rfl rfl ?_
          refine r_goto (tgt := 215) hx (hd 81) (by decide) ?_
          refine r_sub [1, 0] rfl ?_
          exact hj11 v36
        refine r_lcmp_ge (tgt := 178) (pc' := 174) hx (hd 75) (hd 76) (by decide) (fun _ => ?_) rfl (fun _ => ?_)
        · skip
          refine r_lconst (pc' := 179) (v := 0) hx (hd 79) (by decide) rfl ?_
          refine r_sub [0] rfl ?_
          exact hj38 0
        · skip
          refine r_lconst (pc' := 175) (v := 1) hx (hd 77) (by decide) rfl ?_
          refine r_goto (tgt := 179) hx (hd 78) (by decide) ?_
          refine r_sub [0] rfl ?_
          exact hj38 1
      · skip
        refine r_lload_n (pc' := 185) hx (hd 82) rfl 2 rfl rfl ?_
        refine r_lload (pc' := 187) hx (hd 83) 3 rfl rfl ?_
        refine r_jn1 196 (fun v39 => [(0, .ref t)]) (fun v39 => [.long v39]) (fun v39 => M) (fun v39 => ?_) (fun j40 hj41 => ?_)
        · skip
          refine r_lstore (pc' := 198) (L' := [(6, .long v39), (0, .ref t)]) hx (hd 89) (by decide) rfl rfl ?_
          refine r_goto (tgt := 215) hx (hd 90) (by decide) ?_
          refine r_sub [1, 0] rfl ?_
          exact hj11 v39
        refine r_lcmp_le (tgt := 195) (pc' := 191) hx (hd 84) (hd 85) (by decide) (fun _ => ?_) rfl (fun _ => ?_)
        · skip
          refine r_lconst (pc' := 196) (v := 0) hx (hd 88) (by decide) rfl ?_
          refine r_sub [0] rfl ?_
          exact hj41 0
        · skip
          refine r_lconst (pc' := 192) (v := 1) hx (hd 86) (by decide) rfl ?_
          refine r_goto (tgt := 196) hx (hd 87) (by decide) ?_
          refine r_sub [0] rfl ?_
          exact hj41 1
    refine r_lcmp_ne (tgt := 55) (pc' := 42) hx (hd 24) (hd 25) (by decide) (fun _ => ?_) rfl (fun _ => ?_)
    · skip
      refine r_sub [2, 3, 1, 0] rfl ?_
      exact hj8
    · skip
      refine r_iload_n (pc' := 43) hx (hd 26) rfl 3 rfl rfl ?_
      refine r_iconst (pc' := 44) (v := 5) hx (hd 27) (by decide) rfl ?_
      refine r_jn0 53 ([]) ([]) (M) (?_) (fun j42 hj43 => ?_)
      · skip
        refine r_iconst (pc' := 54) (v := 0) hx (hd 32) (by decide) rfl ?_
        exact r_zret hx (hd 33) rfl rfl rfl hz
      refine r_icmp_eq (tgt := 53) (pc' := 47) hx (hd 28) (by decide) (fun _ => ?_) rfl (fun _ => ?_)
      · skip
        refine r_sub [] rfl ?_
        exact hj43
      · skip
        refine r_iload_n (pc' := 48) hx (hd 29) rfl 3 rfl rfl ?_
        refine r_bipush (pc' := 50) (v := 6) hx (hd 30) (by decide) rfl ?_
        refine r_icmp_ne (tgt := 55) (pc' := 53) hx (hd 31) (by decide) (fun _ => ?_) rfl (fun _ => ?_)
        · skip
          refine r_sub [2, 3, 1, 0] rfl ?_
          exact hj8
        · skip
          refine r_sub [] rfl ?_
          exact hj43
  · skip
    refine r_iconst (pc' := 9) (v := 0) hx (hd 4) (by decide) rfl ?_
    exact r_zret hx (hd 5) rfl rfl rfl hz
abbrev yX7_work : MethodName := ({ cls := "CribbageRoom$Sums", name := "work", desc := "(LCribbageRoom$Text;II)Z" } : Jvm.MethodName)
def tbX7_work : List (Nat × Instr × Nat) := [(0, .aload_n 0, 1), (1, .iconst 0, 1), (2, .putfield 39, 3), (5, .iload_n 2, 1), (6, .istore 4, 2), (8, .iconst 0, 1), (9, .istore 5, 2), (11, .iload 5, 2), (13, .sipush 400, 3), (16, .if_icmp .ge 181, 3), (19, .iload 4, 2), (21, .ifCond .lt 176, 3), (24, .iload 4, 2), (26, .iload_n 3, 1), (27, .if_icmp .ge 170, 3), (30, .iload 4, 2), (32, .iconst 1, 1), (33, .iadd, 1), (34, .aload_n 1, 1), (35, .getfield 42, 3), (38, .arraylength, 1), (39, .if_icmp .ge 158, 3), (42, .aload_n 1, 1), (43, .getfield 42, 3), (46, .iload 4, 2), (48, .iaload, 1), (49, .istore 6, 2), (51, .aload_n 1, 1), (52, .getfield 42, 3), (55, .iload 4, 2), (57, .iconst 1, 1), (58, .iadd, 1), (59, .iaload, 1), (60, .istore 7, 2), (62, .iinc 4 2, 3), (65, .iload 6, 2), (67, .ifCond .ne 13, 3), (70, .aload_n 0, 1), (71, .iload 7, 2), (73, .i2l, 1), (74, .invokevirtual 45, 3), (77, .goto 114, 3), (80, .iload 6, 2), (82, .iconst 1, 1), (83, .if_icmp .ne 17, 3), (86, .aload_n 0, 1), (87, .aload_n 0, 1), (88, .iload 7, 2), (90, .invokevirtual 49, 3), (93, .i2l, 1), (94, .invokevirtual 45, 3), (97, .goto 94, 3), (100, .iload 6, 2), (102, .bipush 10, 2), (104, .if_icmp .ne 16, 3), (107, .aload_n 0, 1), (108, .lconst 1, 1), (109, .aload_n 0, 1), (110, .invokevirtual 53, 3), (113, .lsub, 1), (114, .invokevirtual 45, 3), (117, .goto 74, 3), (120, .iload 6, 2), (122, .bipush 11, 2), (124, .if_icmp .eq 10, 3), (127, .iload 6, 2), (129, .bipush 12, 2), (131, .if_icmp .ne 49, 3), (134, .aload_n 0, 1), (135, .invokevirtual 53, 3), (138, .lstore 8, 2), (140, .lload 8, 2), (142, .lconst 0, 1), (143, .lcmp, 1), (144, .ifCond .eq 7, 3), (147, .iconst 1, 1), (148, .goto 4, 3), (151, .iconst 0, 1), (152, .iload 6, 2), (154, .bipush 12, 2), (156, .if_icmp .ne 7, 3), (159, .iconst 1, 1), (160, .goto 4, 3), (163, .iconst 0, 1), (164, .if_icmp .ne 13, 3), (167, .aload_n 0, 1), (168, .lload 8, 2), (170, .invokevirtual 45, 3), (173, .iload 7, 2), (175, .istore 4, 2), (177, .goto 14, 3), (180, .aload_n 0, 1), (181, .iload 6, 2), (183, .invokevirtual 57, 3), (186, .ifCond .ne 5, 3), (189, .iconst 0, 1), (190, .ireturn, 1), (191, .iinc 5 1, 3), (194, .goto (-183), 3), (197, .aload_n 0, 1), (198, .aload_n 0, 1), (199, .invokevirtual 53, 3), (202, .l2i, 1), (203, .putfield 29, 3), (206, .iconst 1, 1), (207, .ireturn, 1)]
theorem dX7_work : ∀ q ∈ tbX7_work, decode prog_9_method_6_code q.1 = .ok q.2 := by decide +kernel
set_option maxRecDepth 20000 in
theorem cX7_work (l : Launch) (w : WX) (hL : Lay w) (t : Nat) (ht : Wat w t 7 0) (p1 : Nat) (hp1 : Wat w p1 9 0) (p2 : Int32) (p3 : Int32) (M : Mem) : Ct l w yX7_work prog_9_method_6_code 10 (Option.some FieldType.boolean) 1 27 evIM emM [.ref t, .ref p1, .int p2, .int p3] M (FX7_work t p1 p2 p3 M) := by
  refine ct_of (by decide) (Nat.le_of_ble_eq_true rfl) (fun x hl hx hb hz => ?_)
  subst hl
  have hd : ∀ i, DAt (xc x).code (tbX7_work[i]?) := fun i => by rw [hb]; exact dat_of dX7_work i
  show C x w (Qn x w evIM emM) 10 0 [(0, .ref t), (1, .ref p1), (2, .int p2), (3, .int p3)] [] M (FX7_work t p1 p2 p3 M)
  unfold FX7_work
  refine r_aload_n (pc' := 1) hx (hd 0) rfl 0 rfl rfl ?_
  refine r_iconst (pc' := 2) (v := 0) hx (hd 1) (by decide) rfl ?_
  refine r_putI (pc' := 5) hx (hd 2) fp_7_39 ht rfl (by decide) rfl (fun M1 => ?_)
  refine r_iload_n (pc' := 6) hx (hd 3) rfl 2 rfl rfl ?_
  refine r_istore (pc' := 8) (L' := [(4, .int p2), (0, .ref t), (1, .ref p1), (2, .int p2), (3, .int p3)]) hx (hd 4) (by decide) rfl rfl ?_
  refine r_iconst (pc' := 9) (v := 0) hx (hd 5) (by decide) rfl ?_
  refine r_istore (pc' := 11) (L' := [(5, .int 0), (4, .int p2), (0, .ref t), (1, .ref p1), (2, .int p2), (3, .int p3)]) hx (hd 6) (by decide) rfl rfl ?_
  refine r_sub [2, 3, 5, 1, 0] rfl ?_
  refine r_wl3 (fun v2 v3 M4 => [(0, .ref t), (1, .ref p1), (3, .int p3), (4, .int v2), (5, .int v3)]) (fun v2 v3 M4 => []) (fun v2 v3 M4 => M4) (fun v2 v3 M4 rec5 ih6 => ?_) fuel p2 0 M1
  refine r_iload (pc' := 13) hx (hd 7) 4 rfl rfl ?_
  refine r_sipush (pc' := 16) (v := 400) hx (hd 8) (by decide) rfl ?_
  refine r_jn0 197 ([(0, .ref t)]) ([]) (M4) (?_) (fun j7 hj8 => ?_)
  · skip
    refine r_aload_n (pc' := 198) hx (hd 99) rfl 0 rfl rfl ?_
    refine r_aload_n (pc' := 199) hx (hd 100) rfl 0 rfl rfl ?_
    refine r_callVJ (pc' := 202) (As := []) (rest := [.ref t]) hx (hd 101) md_X7_pop mi_X7_pop ms_X7_pop ml_7_53 (cX7_pop (xl x) w hL t ht M4) ht rfl (by decide) ⟨Nat.le_of_ble_eq_true rfl, Nat.le_of_ble_eq_true rfl⟩ rfl rfl (Nat.le_of_ble_eq_true rfl) (fun r10 => .long r10 :: [.ref t]) (fun _ => rfl) rfl (fun r10 M9 => ?_)
    refine r_l2i (pc' := 203) hx (hd 102) rfl ?_
    refine r_putI (pc' := 206) hx (hd 103) fp_7_29 ht rfl (by decide) rfl (fun M11 => ?_)
    refine r_iconst (pc' := 207) (v := 1) hx (hd 104) (by decide) rfl ?_
    exact r_zret hx (hd 105) rfl rfl rfl hz
  refine r_icmp_ge (tgt := 197) (pc' := 19) hx (hd 9) (by decide) (fun _ => ?_) rfl (fun _ => ?_)
  · skip
    refine r_sub [0] rfl ?_
    exact hj8
  · skip
    refine r_iload (pc' := 21) hx (hd 10) 3 rfl rfl ?_
    refine r_if_lt (tgt := 197) (pc' := 24) hx (hd 11) (by decide) (fun _ => ?_) rfl (fun _ => ?_)
    · skip
      refine r_sub [0] rfl ?_
      exact hj8
    · skip
      refine r_iload (pc' := 26) hx (hd 12) 3 rfl rfl ?_
      refine r_iload_n (pc' := 27) hx (hd 13) rfl 2 rfl rfl ?_
      refine r_icmp_ge (tgt := 197) (pc' := 30) hx (hd 14) (by decide) (fun _ => ?_) rfl (fun _ => ?_)
      · skip
        refine r_sub [0] rfl ?_
        exact hj8
      · skip
        refine r_iload (pc' := 32) hx (hd 15) 3 rfl rfl ?_
        refine r_iconst (pc' := 33) (v := 1) hx (hd 16) (by decide) rfl ?_
        refine r_iadd (pc' := 34) hx (hd 17) rfl ?_
        refine r_aload_n (pc' := 35) hx (hd 18) rfl 1 rfl rfl ?_
        refine r_get (pc' := 38) (v := .ref (p1 + 1)) hx (hd 19) fl_7_42 hp1 rfl (by decide) rfl ?_
        have h12 := hL.1 _ _ _ hp1 0 1 23 0 rfl
        refine r_alenD (pc' := 39) hx (hd 20) h12 rfl ?_
        refine r_icmp_ge (tgt := 197) (pc' := 42) hx (hd 21) (by decide) (fun _ => ?_) rfl (fun _ => ?_)
        · skip
          refine r_sub [0] rfl ?_
          exact hj8
        · skip
          refine r_aload_n (pc' := 43) hx (hd 22) rfl 1 rfl rfl ?_
          refine r_get (pc' := 46) (v := .ref (p1 + 1)) hx (hd 23) fl_7_42 hp1 rfl (by decide) rfl ?_
          have h13 := hL.1 _ _ _ hp1 0 1 23 0 rfl
          refine r_iload (pc' := 48) hx (hd 24) 3 rfl rfl ?_
          refine r_gd (fun h14 => ?_)
          refine r_ialdD (pc' := 49) (k := ix v2) hx (hd 25) h13 h14 rfl rfl ?_
          refine r_nmI (fun v15 => ?_)
          refine r_istore (pc' := 51) (L' := [(6, .int v15), (0, .ref t), (1, .ref p1), (3, .int p3), (4, .int v2), (5, .int v3)]) hx (hd 26) (by decide) rfl rfl ?_
          refine r_aload_n (pc' := 52) hx (hd 27) rfl 2 rfl rfl ?_
          refine r_get (pc' := 55) (v := .ref (p1 + 1)) hx (hd 28) fl_7_42 hp1 rfl (by decide) rfl ?_
          have h16 := hL.1 _ _ _ hp1 0 1 23 0 rfl
          refine r_iload (pc' := 57) hx (hd 29) 4 rfl rfl ?_
          refine r_iconst (pc' := 58) (v := 1) hx (hd 30) (by decide) rfl ?_
          refine r_iadd (pc' := 59) hx (hd 31) rfl ?_
          refine r_gd (fun h17 => ?_)
          refine r_ialdD (pc' := 60) (k := ix (v2 + 1)) hx (hd 32) h16 h17 rfl rfl ?_
          refine r_nmI (fun v18 => ?_)
          refine r_istore (pc' := 62) (L' := [(7, .int v18), (6, .int v15), (0, .ref t), (1, .ref p1), (3, .int p3), (4, .int v2), (5, .int v3)]) hx (hd 33) (by decide) rfl rfl ?_
          refine r_iinc (pc' := 65) (v := 2) hx (hd 34) 5 rfl (by decide) (by decide) (fun v19 => [(4, .int v19), (7, .int v18), (6, .int v15), (0, .ref t), (1, .ref p1), (3, .int p3), (5, .int v3)]) (fun _ => rfl) rfl (fun v19 => ?_)
          refine r_iload (pc' := 67) hx (hd 35) 2 rfl rfl ?_
          refine r_jn2 191 (fun v20 M21 => [(0, .ref t), (1, .ref p1), (3, .int p3), (4, .int v20), (5, .int v3)]) (fun v20 M21 => []) (fun v20 M21 => M21) (fun v20 M21 => ?_) (fun j22 hj23 => ?_)
          · skip
            refine r_iinc (pc' := 194) (v := 1) hx (hd 97) 4 rfl (by decide) (by decide) (fun v24 => [(5, .int v24), (0, .ref t), (1, .ref p1), (3, .int p3), (4, .int v20)]) (fun _ => rfl) rfl (fun v24 => ?_)
            refine r_goto (tgt := 11) hx (hd 98) (by decide) ?_
            refine r_sub [1, 2, 3, 4, 0] rfl ?_
            exact ih6 v20 v24 M21
          refine r_if_ne (tgt := 80) (pc' := 70) hx (hd 36) (by decide) (fun _ => ?_) rfl (fun _ => ?_)
          · skip
            refine r_iload (pc' := 82) hx (hd 42) 2 rfl rfl ?_
            refine r_iconst (pc' := 83) (v := 1) hx (hd 43) (by decide) rfl ?_
            refine r_icmp_ne (tgt := 100) (pc' := 86) hx (hd 44) (by decide) (fun _ => ?_) rfl (fun _ => ?_)
            · skip
              refine r_iload (pc' := 102) hx (hd 52) 2 rfl rfl ?_
              refine r_bipush (pc' := 104) (v := 10) hx (hd 53) (by decide) rfl ?_
              refine r_icmp_ne (tgt := 120) (pc' := 107) hx (hd 54) (by decide) (fun _ => ?_) rfl (fun _ => ?_)
              · skip
                refine r_iload (pc' := 122) hx (hd 62) 2 rfl rfl ?_
                refine r_bipush (pc' := 124) (v := 11) hx (hd 63) (by decide) rfl ?_
                refine r_jn0 134 ([(0, .ref t), (1, .ref p1), (3, .int p3), (4, .int v19), (5, .int v3), (6, .int v15), (7, .int v18)]) ([]) (M4) (?_) (fun j25 hj26 => ?_)
                · skip
                  refine r_aload_n (pc' := 135) hx (hd 68) rfl 0 rfl rfl ?_
                  refine r_callVJ (pc' := 138) (As := []) (rest := []) hx (hd 69) md_X7_pop mi_X7_pop ms_X7_pop ml_7_53 (cX7_pop (xl x) w hL t ht M4) ht rfl (by decide) ⟨Nat.le_of_ble_eq_true rfl, Nat.le_of_ble_eq_true rfl⟩ rfl rfl (Nat.le_of_ble_eq_true rfl) (fun r28 => .long r28 :: []) (fun _ => rfl) rfl (fun r28 M27 => ?_)
                  refine r_lstore (pc' := 140) (L' := [(8, .long r28), (0, .ref t), (1, .ref p1), (3, .int p3), (4, .int v19), (5, .int v3), (6, .int v15), (7, .int v18)]) hx (hd 70) (by decide) rfl rfl ?_
                  refine r_lload (pc' := 142) hx (hd 71) 0 rfl rfl ?_
                  refine r_lconst (pc' := 143) (v := 0) hx (hd 72) (by decide) rfl ?_
                  refine r_jn1 152 (fun v29 => [(0, .ref t), (1, .ref p1), (3, .int p3), (4, .int v19), (5, .int v3), (6, .int v15), (7, .int v18), (8, .long r28)]) (fun v29 => [.int v29]) (fun v29 => M27) (fun v29 => ?_) (fun j30 hj31 => ?_)
                  · skip
                    refine r_iload (pc' := 154) hx (hd 78) 5 rfl rfl ?_
                    refine r_bipush (pc' := 156) (v := 12) hx (hd 79) (by decide) rfl ?_
                    refine r_jn1 164 (fun v32 => [(0, .ref t), (1, .ref p1), (3, .int p3), (4, .int v19), (5, .int v3), (7, .int v18), (8, .long r28)]) (fun v32 => [.int v32, .int v29]) (fun v32 => M27) (fun v32 => ?_) (fun j33 hj34 => ?_)
                    · skip
                      refine r_jn2 177 (fun v35 M36 => [(0, .ref t), (1, .ref p1), (3, .int p3), (4, .int v35), (5, .int v3)]) (fun v35 M36 => []) (fun v35 M36 => M36) (fun v35 M36 => ?_) (fun j37 hj38 => ?_)
                      · skip
                        refine r_goto (tgt := 191) hx (hd 90) (by decide) ?_
                        exact hj23 v35 M36
                      refine r_icmp_ne (tgt := 177) (pc' := 167) hx (hd 84) (by decide) (fun _ => ?_) rfl (fun _ => ?_)
                      · skip
                        refine r_sub [0, 1, 2, 3, 4] rfl ?_
                        exact hj38 v19 M27
                      · skip
                        refine r_aload_n (pc' := 168) hx (hd 85) rfl 0 rfl rfl ?_
                        refine r_lload (pc' := 170) hx (hd 86) 6 rfl rfl ?_
                        refine r_callVU (pc' := 173) (As := [.long r28]) (rest := []) hx (hd 87) md_X7_push mi_X7_push ms_X7_push ml_7_45 (cX7_push (xl x) w hL t ht r28 M27) ht rfl (by decide) ⟨Nat.le_of_ble_eq_true rfl, Nat.le_of_ble_eq_true rfl⟩ rfl rfl (Nat.le_of_ble_eq_true rfl) rfl (fun M39 => ?_)
                        refine r_iload (pc' := 175) hx (hd 88) 5 rfl rfl ?_
                        refine r_istore (pc' := 177) (L' := [(4, .int v18), (0, .ref t), (1, .ref p1), (3, .int p3), (5, .int v3), (7, .int v18), (8, .long r28)]) hx (hd 89) (by decide) rfl rfl ?_
                        refine r_sub [1, 2, 3, 0, 4] rfl ?_
                        exact hj38 v18 M39
                    refine r_icmp_ne (tgt := 163) (pc' := 159) hx (hd 80) (by decide) (fun _ => ?_) rfl (fun _ => ?_)
                    · skip
                      refine r_iconst (pc' := 164) (v := 0) hx (hd 83) (by decide) rfl ?_
                      refine r_sub [0, 1, 2, 3, 4, 6, 7] rfl ?_
                      exact hj34 0
                    · skip
                      refine r_iconst (pc' := 160) (v := 1) hx (hd 81) (by decide) rfl ?_
                      refine r_goto (tgt := 164) hx (hd 82) (by decide) ?_
                      refine r_sub [0, 1, 2, 3, 4, 6, 7] rfl ?_
                      exact hj34 1
                  refine r_lcmp_eq (tgt := 151) (pc' := 147) hx (hd 73) (hd 74) (by decide) (fun _ => ?_) rfl (fun _ => ?_)
                  · skip
                    refine r_iconst (pc' := 152) (v := 0) hx (hd 77) (by decide) rfl ?_
                    refine r_sub [1, 2, 3, 4, 5, 6, 7, 0] rfl ?_
                    exact hj31 0
                  · skip
                    refine r_iconst (pc' := 148) (v := 1) hx (hd 75) (by decide) rfl ?_
                    refine r_goto (tgt := 152) hx (hd 76) (by decide) ?_
                    refine r_sub [1, 2, 3, 4, 5, 6, 7, 0] rfl ?_
                    exact hj31 1
                refine r_icmp_eq (tgt := 134) (pc' := 127) hx (hd 64) (by decide) (fun _ => ?_) rfl (fun _ => ?_)
                · skip
                  refine r_sub [3, 4, 5, 0, 6, 2, 1] rfl ?_
                  exact hj26
                · skip
                  refine r_iload (pc' := 129) hx (hd 65) 2 rfl rfl ?_
                  refine r_bipush (pc' := 131) (v := 12) hx (hd 66) (by decide) rfl ?_
                  refine r_icmp_ne (tgt := 180) (pc' := 134) hx (hd 67) (by decide) (fun _ => ?_) rfl (fun _ => ?_)
                  · skip
                    refine r_aload_n (pc' := 181) hx (hd 91) rfl 3 rfl rfl ?_
                    refine r_iload (pc' := 183) hx (hd 92) 2 rfl rfl ?_
                    refine r_callVI (pc' := 186) (As := [.int v15]) (rest := []) hx (hd 93) md_X7_join mi_X7_join ms_X7_join ml_7_57 (cX7_join (xl x) w hL t ht v15 M4) ht rfl (by decide) ⟨Nat.le_of_ble_eq_true rfl, Nat.le_of_ble_eq_true rfl⟩ rfl rfl (Nat.le_of_ble_eq_true rfl) (fun r41 => .int r41 :: []) (fun _ => rfl) rfl (fun r41 M40 => ?_)
                    refine r_if_ne (tgt := 191) (pc' := 189) hx (hd 94) (by decide) (fun _ => ?_) rfl (fun _ => ?_)
                    · skip
                      refine r_sub [3, 4, 5, 0, 6] rfl ?_
                      exact hj23 v19 M40
                    · skip
                      refine r_iconst (pc' := 190) (v := 0) hx (hd 95) (by decide) rfl ?_
                      exact r_zret hx (hd 96) rfl rfl rfl hz
                  · skip
                    refine r_sub [3, 4, 5, 0, 6, 2, 1] rfl ?_
                    exact hj26
              · skip
                refine r_aload_n (pc' := 108) hx (hd 55) rfl 3 rfl rfl ?_
                refine r_lconst (pc' := 109) (v := 1) hx (hd 56) (by decide) rfl ?_
                refine r_aload_n (pc' := 110) hx (hd 57) rfl 3 rfl rfl ?_
                refine r_callVJ (pc' := 113) (As := []) (rest := [.long 1, .ref t]) hx (hd 58) md_X7_pop mi_X7_pop ms_X7_pop ml_7_53 (cX7_pop (xl x) w hL t ht M4) ht rfl (by decide) ⟨Nat.le_of_ble_eq_true rfl, Nat.le_of_ble_eq_true rfl⟩ rfl rfl (Nat.le_of_ble_eq_true rfl) (fun r43 => .long r43 :: [.long 1, .ref t]) (fun _ => rfl) rfl (fun r43 M42 => ?_)
                refine r_lsub (pc' := 114) hx (hd 59) rfl ?_
                refine r_callVU (pc' := 117) (As := [.long (1 - r43)]) (rest := []) hx (hd 60) md_X7_push mi_X7_push ms_X7_push ml_7_45 (cX7_push (xl x) w hL t ht (1 - r43) M42) ht rfl (by decide) ⟨Nat.le_of_ble_eq_true rfl, Nat.le_of_ble_eq_true rfl⟩ rfl rfl (Nat.le_of_ble_eq_true rfl) rfl (fun M44 => ?_)
                refine r_goto (tgt := 191) hx (hd 61) (by decide) ?_
                refine r_sub [3, 4, 5, 0, 6] rfl ?_
                exact hj23 v19 M44
            · skip
              refine r_aload_n (pc' := 87) hx (hd 45) rfl 3 rfl rfl ?_
              refine r_aload_n (pc' := 88) hx (hd 46) rfl 3 rfl rfl ?_
              refine r_iload (pc' := 90) hx (hd 47) 1 rfl rfl ?_
              refine r_callV (pc' := 93) (As := [.int v18]) (rest := [.ref t]) hx (hd 48) md_X7_told mi_X7_told ms_X7_told ml_7_49 (cX7_told (xl x) w hL t ht v18 M4) ht rfl (by decide) ⟨Nat.le_of_ble_eq_true rfl, Nat.le_of_ble_eq_true rfl⟩ rfl rfl (Nat.le_of_ble_eq_true rfl) (fun r45 => .int r45 :: [.ref t]) (fun _ => M4) (fun _ => ⟨rfl, rfl⟩) rfl (fun r45 _ => ?_)
              refine r_i2l (pc' := 94) hx (hd 49) rfl ?_
              refine r_callVU (pc' := 97) (As := [.long r45.toInt64]) (rest := []) hx (hd 50) md_X7_push mi_X7_push ms_X7_push ml_7_45 (cX7_push (xl x) w hL t ht (r45.toInt64) M4) ht rfl (by decide) ⟨Nat.le_of_ble_eq_true rfl, Nat.le_of_ble_eq_true rfl⟩ rfl rfl (Nat.le_of_ble_eq_true rfl) rfl (fun M46 => ?_)
              refine r_goto (tgt := 191) hx (hd 51) (by decide) ?_
              refine r_sub [3, 4, 5, 0, 6] rfl ?_
              exact hj23 v19 M46
          · skip
            refine r_aload_n (pc' := 71) hx (hd 37) rfl 3 rfl rfl ?_
            refine r_iload (pc' := 73) hx (hd 38) 1 rfl rfl ?_
            refine r_i2l (pc' := 74) hx (hd 39) rfl ?_
            refine r_callVU (pc' := 77) (As := [.long v18.toInt64]) (rest := []) hx (hd 40) md_X7_push mi_X7_push ms_X7_push ml_7_45 (cX7_push (xl x) w hL t ht (v18.toInt64) M4) ht rfl (by decide) ⟨Nat.le_of_ble_eq_true rfl, Nat.le_of_ble_eq_true rfl⟩ rfl rfl (Nat.le_of_ble_eq_true rfl) rfl (fun M47 => ?_)
            refine r_goto (tgt := 191) hx (hd 41) (by decide) ?_
            refine r_sub [3, 4, 5, 0, 6] rfl ?_
            exact hj23 v19 M47
abbrev yX7_isSo : MethodName := ({ cls := "CribbageRoom$Sums", name := "isSo", desc := "(LCribbageRoom$Text;I)Z" } : Jvm.MethodName)
def tbX7_isSo : List (Nat × Instr × Nat) := [(0, .aload_n 1, 1), (1, .iload_n 2, 1), (2, .iconst 4, 1), (3, .invokevirtual 21, 3), (6, .istore_n 3, 1), (7, .aload_n 1, 1), (8, .iload_n 2, 1), (9, .iconst 5, 1), (10, .invokevirtual 21, 3), (13, .istore 4, 2), (15, .iload_n 3, 1), (16, .iload 4, 2), (18, .if_icmp .eq 21, 3), (21, .aload_n 0, 1), (22, .aload_n 1, 1), (23, .iload_n 3, 1), (24, .iload 4, 2), (26, .invokevirtual 25, 3), (29, .ifCond .eq 14, 3), (32, .aload_n 0, 1), (33, .getfield 29, 3), (36, .ifCond .eq 7, 3), (39, .iconst 1, 1), (40, .goto 4, 3), (43, .iconst 0, 1), (44, .ireturn, 1)]
theorem dX7_isSo : ∀ q ∈ tbX7_isSo, decode prog_9_method_4_code q.1 = .ok q.2 := by decide +kernel
set_option maxRecDepth 20000 in
theorem cX7_isSo (l : Launch) (w : WX) (hL : Lay w) (t : Nat) (ht : Wat w t 7 0) (p1 : Nat) (hp1 : Wat w p1 9 0) (p2 : Int32) (M : Mem) : Ct l w yX7_isSo prog_9_method_4_code 5 (Option.some FieldType.boolean) 2 56 evIM emM [.ref t, .ref p1, .int p2] M (FX7_isSo t p1 p2 M) := by
  refine ct_of (by decide) (Nat.le_of_ble_eq_true rfl) (fun x hl hx hb hz => ?_)
  subst hl
  have hd : ∀ i, DAt (xc x).code (tbX7_isSo[i]?) := fun i => by rw [hb]; exact dat_of dX7_isSo i
  show C x w (Qn x w evIM emM) 5 0 [(0, .ref t), (1, .ref p1), (2, .int p2)] [] M (FX7_isSo t p1 p2 M)
  unfold FX7_isSo
  refine r_aload_n (pc' := 1) hx (hd 0) rfl 1 rfl rfl ?_
  refine r_iload_n (pc' := 2) hx (hd 1) rfl 2 rfl rfl ?_
  refine r_iconst (pc' := 3) (v := 4) hx (hd 2) (by decide) rfl ?_
  refine r_callV (pc' := 6) (As := [.int p2, .int 4]) (rest := []) hx (hd 3) md_X9_at mi_X9_at ms_X9_at ml_7_21 (cX9_at (xl x) w hL p1 hp1 p2 4 M) hp1 rfl (by decide) ⟨Nat.le_of_ble_eq_true rfl, Nat.le_of_ble_eq_true rfl⟩ rfl rfl (Nat.le_of_ble_eq_true rfl) (fun r1 => .int r1 :: []) (fun _ => M) (fun _ => ⟨rfl, rfl⟩) rfl (fun r1 _ => ?_)
  refine r_istore_n (pc' := 7) (L' := [(3, .int r1), (0, .ref t), (1, .ref p1), (2, .int p2)]) hx (hd 4) rfl (by decide) rfl rfl ?_
  refine r_aload_n (pc' := 8) hx (hd 5) rfl 2 rfl rfl ?_
  refine r_iload_n (pc' := 9) hx (hd 6) rfl 3 rfl rfl ?_
  refine r_iconst (pc' := 10) (v := 5) hx (hd 7) (by decide) rfl ?_
  refine r_callV (pc' := 13) (As := [.int p2, .int 5]) (rest := []) hx (hd 8) md_X9_at mi_X9_at ms_X9_at ml_7_21 (cX9_at (xl x) w hL p1 hp1 p2 5 M) hp1 rfl (by decide) ⟨Nat.le_of_ble_eq_true rfl, Nat.le_of_ble_eq_true rfl⟩ rfl rfl (Nat.le_of_ble_eq_true rfl) (fun r2 => .int r2 :: []) (fun _ => M) (fun _ => ⟨rfl, rfl⟩) rfl (fun r2 _ => ?_)
  refine r_istore (pc' := 15) (L' := [(4, .int r2), (3, .int r1), (0, .ref t), (1, .ref p1), (2, .int p2)]) hx (hd 9) (by decide) rfl rfl ?_
  refine r_iload_n (pc' := 16) hx (hd 10) rfl 1 rfl rfl ?_
  refine r_iload (pc' := 18) hx (hd 11) 0 rfl rfl ?_
  refine r_jn2 44 (fun v3 M4 => []) (fun v3 M4 => [.int v3]) (fun v3 M4 => M4) (fun v3 M4 => ?_) (fun j5 hj6 => ?_)
  · skip
    refine r_gd (fun h7 => ?_)
    exact r_zret hx (hd 25) h7 rfl rfl hz
  refine r_jn1 39 (fun M8 => []) (fun M8 => []) (fun M8 => M8) (fun M8 => ?_) (fun j9 hj10 => ?_)
  · skip
    refine r_iconst (pc' := 40) (v := 1) hx (hd 22) (by decide) rfl ?_
    refine r_goto (tgt := 44) hx (hd 23) (by decide) ?_
    exact hj6 1 M8
  refine r_icmp_eq (tgt := 39) (pc' := 21) hx (hd 12) (by decide) (fun _ => ?_) rfl (fun _ => ?_)
  · skip
    refine r_sub [] rfl ?_
    exact hj10 M
  · skip
    refine r_aload_n (pc' := 22) hx (hd 13) rfl 2 rfl rfl ?_
    refine r_aload_n (pc' := 23) hx (hd 14) rfl 3 rfl rfl ?_
    refine r_iload_n (pc' := 24) hx (hd 15) rfl 1 rfl rfl ?_
    refine r_iload (pc' := 26) hx (hd 16) 0 rfl rfl ?_
    refine r_callVI (pc' := 29) (As := [.ref p1, .int r1, .int r2]) (rest := []) hx (hd 17) md_X7_work mi_X7_work ms_X7_work ml_7_25 (cX7_work (xl x) w hL t ht p1 hp1 r1 r2 M) ht rfl (by decide) ⟨Nat.le_of_ble_eq_true rfl, Nat.le_of_ble_eq_true rfl⟩ rfl rfl (Nat.le_of_ble_eq_true rfl) (fun r12 => .int r12 :: []) (fun _ => rfl) rfl (fun r12 M11 => ?_)
    refine r_jn0 43 ([]) ([]) (M11) (?_) (fun j13 hj14 => ?_)
    · skip
      refine r_iconst (pc' := 44) (v := 0) hx (hd 24) (by decide) rfl ?_
      exact hj6 0 M11
    refine r_if_eq (tgt := 43) (pc' := 32) hx (hd 18) (by decide) (fun _ => ?_) rfl (fun _ => ?_)
    · skip
      refine r_sub [] rfl ?_
      exact hj14
    · skip
      refine r_aload_n (pc' := 33) hx (hd 19) rfl 2 rfl rfl ?_
      refine r_get (pc' := 36) (v := .int (mI M11 t 5)) hx (hd 20) fl_7_29 ht rfl (by decide) rfl ?_
      refine r_if_eq (tgt := 43) (pc' := 39) hx (hd 21) (by decide) (fun _ => ?_) rfl (fun _ => ?_)
      · skip
        refine r_sub [] rfl ?_
        exact hj14
      · skip
        refine r_sub [] rfl ?_
        exact hj10 M11
abbrev yX7_workBoth : MethodName := ({ cls := "CribbageRoom$Sums", name := "workBoth", desc := "(LCribbageRoom$Text;I)Z" } : Jvm.MethodName)
def tbX7_workBoth : List (Nat × Instr × Nat) := [(0, .aload_n 0, 1), (1, .aload_n 1, 1), (2, .aload_n 1, 1), (3, .iload_n 2, 1), (4, .iconst 2, 1), (5, .invokevirtual 21, 3), (8, .aload_n 1, 1), (9, .iload_n 2, 1), (10, .iconst 3, 1), (11, .invokevirtual 21, 3), (14, .invokevirtual 25, 3), (17, .istore_n 3, 1), (18, .aload_n 0, 1), (19, .aload_n 0, 1), (20, .getfield 29, 3), (23, .putfield 33, 3), (26, .iload_n 3, 1), (27, .ifCond .eq 27, 3), (30, .aload_n 0, 1), (31, .aload_n 1, 1), (32, .aload_n 1, 1), (33, .iload_n 2, 1), (34, .iconst 3, 1), (35, .invokevirtual 21, 3), (38, .aload_n 1, 1), (39, .iload_n 2, 1), (40, .iconst 4, 1), (41, .invokevirtual 21, 3), (44, .invokevirtual 25, 3), (47, .ifCond .eq 7, 3), (50, .iconst 1, 1), (51, .goto 4, 3), (54, .iconst 0, 1), (55, .istore_n 3, 1), (56, .aload_n 0, 1), (57, .aload_n 0, 1), (58, .getfield 29, 3), (61, .putfield 36, 3), (64, .iload_n 3, 1), (65, .ireturn, 1)]
theorem dX7_workBoth : ∀ q ∈ tbX7_workBoth, decode prog_9_method_5_code q.1 = .ok q.2 := by decide +kernel
set_option maxRecDepth 20000 in
theorem cX7_workBoth (l : Launch) (w : WX) (hL : Lay w) (t : Nat) (ht : Wat w t 7 0) (p1 : Nat) (hp1 : Wat w p1 9 0) (p2 : Int32) (M : Mem) : Ct l w yX7_workBoth prog_9_method_5_code 4 (Option.some FieldType.boolean) 2 56 evIM emM [.ref t, .ref p1, .int p2] M (FX7_workBoth t p1 p2 M) := by
  refine ct_of (by decide) (Nat.le_of_ble_eq_true rfl) (fun x hl hx hb hz => ?_)
  subst hl
  have hd : ∀ i, DAt (xc x).code (tbX7_workBoth[i]?) := fun i => by rw [hb]; exact dat_of dX7_workBoth i
  show C x w (Qn x w evIM emM) 4 0 [(0, .ref t), (1, .ref p1), (2, .int p2)] [] M (FX7_workBoth t p1 p2 M)
  unfold FX7_workBoth
  refine r_aload_n (pc' := 1) hx (hd 0) rfl 0 rfl rfl ?_
  refine r_aload_n (pc' := 2) hx (hd 1) rfl 1 rfl rfl ?_
  refine r_aload_n (pc' := 3) hx (hd 2) rfl 1 rfl rfl ?_
  refine r_iload_n (pc' := 4) hx (hd 3) rfl 2 rfl rfl ?_
  refine r_iconst (pc' := 5) (v := 2) hx (hd 4) (by decide) rfl ?_
  refine r_callV (pc' := 8) (As := [.int p2, .int 2]) (rest := [.ref p1, .ref t]) hx (hd 5) md_X9_at mi_X9_at ms_X9_at ml_7_21 (cX9_at (xl x) w hL p1 hp1 p2 2 M) hp1 rfl (by decide) ⟨Nat.le_of_ble_eq_true rfl, Nat.le_of_ble_eq_true rfl⟩ rfl rfl (Nat.le_of_ble_eq_true rfl) (fun r1 => .int r1 :: [.ref p1, .ref t]) (fun _ => M) (fun _ => ⟨rfl, rfl⟩) rfl (fun r1 _ => ?_)
  refine r_aload_n (pc' := 9) hx (hd 6) rfl 1 rfl rfl ?_
  refine r_iload_n (pc' := 10) hx (hd 7) rfl 2 rfl rfl ?_
  refine r_iconst (pc' := 11) (v := 3) hx (hd 8) (by decide) rfl ?_
  refine r_callV (pc' := 14) (As := [.int p2, .int 3]) (rest := [.int r1, .ref p1, .ref t]) hx (hd 9) md_X9_at mi_X9_at ms_X9_at ml_7_21 (cX9_at (xl x) w hL p1 hp1 p2 3 M) hp1 rfl (by decide) ⟨Nat.le_of_ble_eq_true rfl, Nat.le_of_ble_eq_true rfl⟩ rfl rfl (Nat.le_of_ble_eq_true rfl) (fun r2 => .int r2 :: [.int r1, .ref p1, .ref t]) (fun _ => M) (fun _ => ⟨rfl, rfl⟩) rfl (fun r2 _ => ?_)
  refine r_callVI (pc' := 17) (As := [.ref p1, .int r1, .int r2]) (rest := []) hx (hd 10) md_X7_work mi_X7_work ms_X7_work ml_7_25 (cX7_work (xl x) w hL t ht p1 hp1 r1 r2 M) ht rfl (by decide) ⟨Nat.le_of_ble_eq_true rfl, Nat.le_of_ble_eq_true rfl⟩ rfl rfl (Nat.le_of_ble_eq_true rfl) (fun r4 => .int r4 :: []) (fun _ => rfl) rfl (fun r4 M3 => ?_)
  refine r_istore_n (pc' := 18) (L' := [(3, .int r4), (0, .ref t), (1, .ref p1), (2, .int p2)]) hx (hd 11) rfl (by decide) rfl rfl ?_
  refine r_aload_n (pc' := 19) hx (hd 12) rfl 1 rfl rfl ?_
  refine r_aload_n (pc' := 20) hx (hd 13) rfl 1 rfl rfl ?_
  refine r_get (pc' := 23) (v := .int (mI M3 t 5)) hx (hd 14) fl_7_29 ht rfl (by decide) rfl ?_
  refine r_putI (pc' := 26) hx (hd 15) fp_7_33 ht rfl (by decide) rfl (fun M5 => ?_)
  refine r_iload_n (pc' := 27) hx (hd 16) rfl 0 rfl rfl ?_
  refine r_jn2 55 (fun v6 M7 => [(0, .ref t)]) (fun v6 M7 => [.int v6]) (fun v6 M7 => M7) (fun v6 M7 => ?_) (fun j8 hj9 => ?_)
  · skip
    refine r_istore_n (pc' := 56) (L' := [(3, .int v6), (0, .ref t)]) hx (hd 33) rfl (by decide) rfl rfl ?_
    refine r_aload_n (pc' := 57) hx (hd 34) rfl 1 rfl rfl ?_
    refine r_aload_n (pc' := 58) hx (hd 35) rfl 1 rfl rfl ?_
    refine r_get (pc' := 61) (v := .int (mI M7 t 5)) hx (hd 36) fl_7_29 ht rfl (by decide) rfl ?_
    refine r_putI (pc' := 64) hx (hd 37) fp_7_36 ht rfl (by decide) rfl (fun M10 => ?_)
    refine r_iload_n (pc' := 65) hx (hd 38) rfl 0 rfl rfl ?_
    refine r_gd (fun h11 => ?_)
    exact r_zret hx (hd 39) h11 rfl rfl hz
  refine r_jn1 54 (fun M12 => [(0, .ref t)]) (fun M12 => []) (fun M12 => M12) (fun M12 => ?_) (fun j13 hj14 => ?_)
  · skip
    refine r_iconst (pc' := 55) (v := 0) hx (hd 32) (by decide) rfl ?_
    exact hj9 0 M12
  refine r_if_eq (tgt := 54) (pc' := 30) hx (hd 17) (by decide) (fun _ => ?_) rfl (fun _ => ?_)
  · skip
    refine r_sub [1] rfl ?_
    exact hj14 M5
  · skip
    refine r_aload_n (pc' := 31) hx (hd 18) rfl 1 rfl rfl ?_
    refine r_aload_n (pc' := 32) hx (hd 19) rfl 2 rfl rfl ?_
    refine r_aload_n (pc' := 33) hx (hd 20) rfl 2 rfl rfl ?_
    refine r_iload_n (pc' := 34) hx (hd 21) rfl 3 rfl rfl ?_
    refine r_iconst (pc' := 35) (v := 3) hx (hd 22) (by decide) rfl ?_
    refine r_callV (pc' := 38) (As := [.int p2, .int 3]) (rest := [.ref p1, .ref t]) hx (hd 23) md_X9_at mi_X9_at ms_X9_at ml_7_21 (cX9_at (xl x) w hL p1 hp1 p2 3 M5) hp1 rfl (by decide) ⟨Nat.le_of_ble_eq_true rfl, Nat.le_of_ble_eq_true rfl⟩ rfl rfl (Nat.le_of_ble_eq_true rfl) (fun r15 => .int r15 :: [.ref p1, .ref t]) (fun _ => M5) (fun _ => ⟨rfl, rfl⟩) rfl (fun r15 _ => ?_)
    refine r_aload_n (pc' := 39) hx (hd 24) rfl 2 rfl rfl ?_
    refine r_iload_n (pc' := 40) hx (hd 25) rfl 3 rfl rfl ?_
    refine r_iconst (pc' := 41) (v := 4) hx (hd 26) (by decide) rfl ?_
    refine r_callV (pc' := 44) (As := [.int p2, .int 4]) (rest := [.int r15, .ref p1, .ref t]) hx (hd 27) md_X9_at mi_X9_at ms_X9_at ml_7_21 (cX9_at (xl x) w hL p1 hp1 p2 4 M5) hp1 rfl (by decide) ⟨Nat.le_of_ble_eq_true rfl, Nat.le_of_ble_eq_true rfl⟩ rfl rfl (Nat.le_of_ble_eq_true rfl) (fun r16 => .int r16 :: [.int r15, .ref p1, .ref t]) (fun _ => M5) (fun _ => ⟨rfl, rfl⟩) rfl (fun r16 _ => ?_)
    refine r_callVI (pc' := 47) (As := [.ref p1, .int r15, .int r16]) (rest := []) hx (hd 28) md_X7_work mi_X7_work ms_X7_work ml_7_25 (cX7_work (xl x) w hL t ht p1 hp1 r15 r16 M5) ht rfl (by decide) ⟨Nat.le_of_ble_eq_true rfl, Nat.le_of_ble_eq_true rfl⟩ rfl rfl (Nat.le_of_ble_eq_true rfl) (fun r18 => .int r18 :: []) (fun _ => rfl) rfl (fun r18 M17 => ?_)
    refine r_if_eq (tgt := 54) (pc' := 50) hx (hd 29) (by decide) (fun _ => ?_) rfl (fun _ => ?_)
    · skip
      refine r_sub [1] rfl ?_
      exact hj14 M17
    · skip
      refine r_iconst (pc' := 51) (v := 1) hx (hd 30) (by decide) rfl ?_
      refine r_goto (tgt := 55) hx (hd 31) (by decide) ?_
      refine r_sub [1] rfl ?_
      exact hj9 1 M17
abbrev yX10_holds : MethodName := ({ cls := "CribbageRoom$Worth", name := "holds", desc := "(LCribbageRoom$Text;I)Z" } : Jvm.MethodName)
def tbX10_holds : List (Nat × Instr × Nat) := [(0, .aload_n 0, 1), (1, .getfield 12, 3), (4, .aload_n 1, 1), (5, .iload_n 2, 1), (6, .invokevirtual 123, 3), (9, .ifCond .eq 19, 3), (12, .aload_n 0, 1), (13, .getfield 12, 3), (16, .aload_n 1, 1), (17, .iload_n 2, 1), (18, .invokevirtual 126, 3), (21, .ifCond .eq 7, 3), (24, .iconst 1, 1), (25, .goto 4, 3), (28, .iconst 0, 1), (29, .ireturn, 1)]
theorem dX10_holds : ∀ q ∈ tbX10_holds, decode prog_12_method_10_code q.1 = .ok q.2 := by decide +kernel
set_option maxRecDepth 20000 in
theorem cX10_holds (l : Launch) (w : WX) (hL : Lay w) (t : Nat) (ht : Wat w t 10 0) (p1 : Nat) (hp1 : Wat w p1 9 0) (p2 : Int32) (M : Mem) : Ct l w yX10_holds prog_12_method_10_code 3 (Option.some FieldType.boolean) 3 80 evIM emM [.ref t, .ref p1, .int p2] M (FX10_holds t p1 p2 M) := by
  refine ct_of (by decide) (Nat.le_of_ble_eq_true rfl) (fun x hl hx hb hz => ?_)
  subst hl
  have hd : ∀ i, DAt (xc x).code (tbX10_holds[i]?) := fun i => by rw [hb]; exact dat_of dX10_holds i
  show C x w (Qn x w evIM emM) 3 0 [(0, .ref t), (1, .ref p1), (2, .int p2)] [] M (FX10_holds t p1 p2 M)
  unfold FX10_holds
  refine r_aload_n (pc' := 1) hx (hd 0) rfl 0 rfl rfl ?_
  refine r_get (pc' := 4) (v := .ref (t + 1)) hx (hd 1) fl_10_12 ht rfl (by decide) rfl ?_
  have h1 := hL.1 _ _ _ ht 0 1 7 0 rfl
  refine r_aload_n (pc' := 5) hx (hd 2) rfl 1 rfl rfl ?_
  refine r_iload_n (pc' := 6) hx (hd 3) rfl 2 rfl rfl ?_
  refine r_callVI (pc' := 9) (As := [.ref p1, .int p2]) (rest := []) hx (hd 4) md_X7_isSo mi_X7_isSo ms_X7_isSo ml_10_123 (cX7_isSo (xl x) w hL (t + 1) h1 p1 hp1 p2 M) h1 rfl (by decide) ⟨Nat.le_of_ble_eq_true rfl, Nat.le_of_ble_eq_true rfl⟩ rfl rfl (Nat.le_of_ble_eq_true rfl) (fun r3 => .int r3 :: []) (fun _ => rfl) rfl (fun r3 M2 => ?_)
  refine r_jn2 29 (fun v4 M5 => []) (fun v4 M5 => [.int v4]) (fun v4 M5 => M5) (fun v4 M5 => ?_) (fun j6 hj7 => ?_)
  · skip
    refine r_gd (fun h8 => ?_)
    exact r_zret hx (hd 15) h8 rfl rfl hz
  refine r_jn1 28 (fun M9 => []) (fun M9 => []) (fun M9 => M9) (fun M9 => ?_) (fun j10 hj11 => ?_)
  · skip
    refine r_iconst (pc' := 29) (v := 0) hx (hd 14) (by decide) rfl ?_
    exact hj7 0 M9
  refine r_if_eq (tgt := 28) (pc' := 12) hx (hd 5) (by decide) (fun _ => ?_) rfl (fun _ => ?_)
  · skip
    refine r_sub [] rfl ?_
    exact hj11 M2
  · skip
    refine r_aload_n (pc' := 13) hx (hd 6) rfl 0 rfl rfl ?_
    refine r_get (pc' := 16) (v := .ref (t + 1)) hx (hd 7) fl_10_12 ht rfl (by decide) rfl ?_
    have h12 := hL.1 _ _ _ ht 0 1 7 0 rfl
    refine r_aload_n (pc' := 17) hx (hd 8) rfl 1 rfl rfl ?_
    refine r_iload_n (pc' := 18) hx (hd 9) rfl 2 rfl rfl ?_
    refine r_callVI (pc' := 21) (As := [.ref p1, .int p2]) (rest := []) hx (hd 10) md_X7_workBoth mi_X7_workBoth ms_X7_workBoth ml_10_126 (cX7_workBoth (xl x) w hL (t + 1) h12 p1 hp1 p2 M2) h12 rfl (by decide) ⟨Nat.le_of_ble_eq_true rfl, Nat.le_of_ble_eq_true rfl⟩ rfl rfl (Nat.le_of_ble_eq_true rfl) (fun r14 => .int r14 :: []) (fun _ => rfl) rfl (fun r14 M13 => ?_)
    refine r_if_eq (tgt := 28) (pc' := 24) hx (hd 11) (by decide) (fun _ => ?_) rfl (fun _ => ?_)
    · skip
      refine r_sub [] rfl ?_
      exact hj11 M13
    · skip
      refine r_iconst (pc' := 25) (v := 1) hx (hd 12) (by decide) rfl ?_
      refine r_goto (tgt := 29) hx (hd 13) (by decide) ?_
      refine r_sub [] rfl ?_
      exact hj7 1 M13
abbrev yX11_bit : MethodName := ({ cls := "CribbageRoom", name := "bit", desc := "(I)J" } : Jvm.MethodName)
def tbX11_bit : List (Nat × Instr × Nat) := [(0, .iload_n 0, 1), (1, .invokestatic 106, 3), (4, .ifCond .eq 9, 3), (7, .lconst 1, 1), (8, .iload_n 0, 1), (9, .lshl, 1), (10, .goto 4, 3), (13, .lconst 0, 1), (14, .lreturn, 1)]
theorem dX11_bit : ∀ q ∈ tbX11_bit, decode prog_1_method_56_code q.1 = .ok q.2 := by decide +kernel
set_option maxRecDepth 20000 in
theorem cX11_bit (l : Launch) (w : WX) (hL : Lay w) (p0 : Int32) (M : Mem) : Ct l w yX11_bit prog_1_method_56_code 1 (Option.some FieldType.long) 1 20 evJ (emC M) [.int p0] M (FX11_bit p0) := by
  refine ct_of (by decide) (Nat.le_of_ble_eq_true rfl) (fun x hl hx hb hz => ?_)
  subst hl
  have hd : ∀ i, DAt (xc x).code (tbX11_bit[i]?) := fun i => by rw [hb]; exact dat_of dX11_bit i
  show C x w (Qn x w evJ (emC M)) 1 0 [(0, .int p0)] [] M (FX11_bit p0)
  unfold FX11_bit
  refine r_iload_n (pc' := 1) hx (hd 0) rfl 0 rfl rfl ?_
  refine r_callS (pc' := 4) (As := [.int p0]) (rest := []) hx (hd 1) md_X11_isCard mst_X11_isCard ml_11_106 (cX11_isCard (xl x) w hL p0 M) ⟨Nat.le_of_ble_eq_true rfl, Nat.le_of_ble_eq_true rfl⟩ rfl rfl (Nat.le_of_ble_eq_true rfl) (fun r1 => .int r1 :: []) (fun _ => M) (fun _ => ⟨rfl, rfl⟩) rfl (fun r1 _ => ?_)
  refine r_jn1 14 (fun v2 => []) (fun v2 => [.long v2]) (fun v2 => M) (fun v2 => ?_) (fun j3 hj4 => ?_)
  · skip
    exact r_lret hx (hd 8) rfl rfl hz
  refine r_if_eq (tgt := 13) (pc' := 7) hx (hd 2) (by decide) (fun _ => ?_) rfl (fun _ => ?_)
  · skip
    refine r_lconst (pc' := 14) (v := 0) hx (hd 7) (by decide) rfl ?_
    refine r_sub [] rfl ?_
    exact hj4 0
  · skip
    refine r_lconst (pc' := 8) (v := 1) hx (hd 3) (by decide) rfl ?_
    refine r_iload_n (pc' := 9) hx (hd 4) rfl 0 rfl rfl ?_
    refine r_lshl (pc' := 10) hx (hd 5) rfl ?_
    refine r_goto (tgt := 14) hx (hd 6) (by decide) ?_
    refine r_sub [] rfl ?_
    exact hj4 ((1 : Int64) <<< (p0.toInt64 &&& 63))
abbrev yX11_within : MethodName := ({ cls := "CribbageRoom", name := "within", desc := "(III)I" } : Jvm.MethodName)
def tbX11_within : List (Nat × Instr × Nat) := [(0, .iload_n 1, 1), (1, .iload_n 2, 1), (2, .iload_n 0, 1), (3, .invokestatic 436, 3), (6, .invokestatic 441, 3), (9, .ireturn, 1)]
theorem dX11_within : ∀ q ∈ tbX11_within, decode prog_1_method_61_code q.1 = .ok q.2 := by decide +kernel
set_option maxRecDepth 20000 in
theorem cX11_within (l : Launch) (w : WX) (hL : Lay w) (p0 : Int32) (p1 : Int32) (p2 : Int32) (M : Mem) : Ct l w yX11_within prog_1_method_61_code 3 (Option.some FieldType.int) 1 30 evI (emC M) [.int p0, .int p1, .int p2] M (FX11_within p0 p1 p2) := by
  refine ct_of (by decide) (Nat.le_of_ble_eq_true rfl) (fun x hl hx hb hz => ?_)
  subst hl
  have hd : ∀ i, DAt (xc x).code (tbX11_within[i]?) := fun i => by rw [hb]; exact dat_of dX11_within i
  show C x w (Qn x w evI (emC M)) 3 0 [(0, .int p0), (1, .int p1), (2, .int p2)] [] M (FX11_within p0 p1 p2)
  unfold FX11_within
  refine r_iload_n (pc' := 1) hx (hd 0) rfl 1 rfl rfl ?_
  refine r_iload_n (pc' := 2) hx (hd 1) rfl 2 rfl rfl ?_
  refine r_iload_n (pc' := 3) hx (hd 2) rfl 0 rfl rfl ?_
  refine r_mmin (pc' := 6) hx (hd 3) ml_11_436 ⟨Nat.le_of_ble_eq_true rfl, Nat.le_of_ble_eq_true rfl⟩ (Nat.le_of_ble_eq_true rfl) rfl ?_
  refine r_mmax (pc' := 9) hx (hd 4) ml_11_441 ⟨Nat.le_of_ble_eq_true rfl, Nat.le_of_ble_eq_true rfl⟩ (Nat.le_of_ble_eq_true rfl) rfl ?_
  exact r_iret hx (hd 5) rfl rfl hz
abbrev yX10_askOfCards : MethodName := ({ cls := "CribbageRoom$Worth", name := "askOfCards", desc := "(LCribbageRoom$Text;II)V" } : Jvm.MethodName)
def tbX10_askOfCards : List (Nat × Instr × Nat) := [(0, .aload_n 0, 1), (1, .getfield 12, 3), (4, .iconst 3, 1), (5, .iconst (-1), 1), (6, .invokevirtual 72, 3), (9, .aload_n 0, 1), (10, .getfield 12, 3), (13, .iconst 4, 1), (14, .iconst (-1), 1), (15, .invokevirtual 72, 3), (18, .iconst 0, 1), (19, .istore 4, 2), (21, .iload 4, 2), (23, .bipush 52, 2), (25, .if_icmp .ge 88, 3), (28, .aload_n 0, 1), (29, .getfield 12, 3), (32, .iconst 1, 1), (33, .iload 4, 2), (35, .iconst 4, 1), (36, .idiv, 1), (37, .invokevirtual 72, 3), (40, .aload_n 0, 1), (41, .getfield 12, 3), (44, .iconst 2, 1), (45, .iload 4, 2), (47, .iconst 4, 1), (48, .irem, 1), (49, .invokevirtual 72, 3), (52, .aload_n 0, 1), (53, .aload_n 1, 1), (54, .iload_n 2, 1), (55, .invokevirtual 99, 3), (58, .ifCond .ne 6, 3), (61, .goto 46, 3), (64, .iload_n 3, 1), (65, .bipush 6, 2), (67, .if_icmp .ne 20, 3), (70, .aload_n 0, 1), (71, .dup, 1), (72, .getfield 90, 3), (75, .iload 4, 2), (77, .invokestatic 103, 3), (80, .lor, 1), (81, .putfield 90, 3), (84, .goto 23, 3), (87, .aload_n 0, 1), (88, .getfield 18, 3), (91, .iload 4, 2), (93, .aload_n 0, 1), (94, .getfield 12, 3), (97, .getfield 107, 3), (100, .iconst 1, 1), (101, .bipush 31, 2), (103, .invokestatic 110, 3), (106, .iastore, 1), (107, .iinc 4 1, 3), (110, .goto (-89), 3), (113, .return_, 1)]
theorem dX10_askOfCards : ∀ q ∈ tbX10_askOfCards, decode prog_12_method_7_code q.1 = .ok q.2 := by decide +kernel
set_option maxRecDepth 20000 in
theorem cX10_askOfCards (l : Launch) (w : WX) (hL : Lay w) (t : Nat) (ht : Wat w t 10 0) (p1 : Nat) (hp1 : Wat w p1 9 0) (p2 : Int32) (p3 : Int32) (M : Mem) : Ct l w yX10_askOfCards prog_12_method_7_code 5 (Option.none : Option FieldType) 4 102 evU emU [.ref t, .ref p1, .int p2, .int p3] M (FX10_askOfCards t p1 p2 p3 M) := by
  refine ct_of (by decide) (Nat.le_of_ble_eq_true rfl) (fun x hl hx hb hz => ?_)
  subst hl
  have hd : ∀ i, DAt (xc x).code (tbX10_askOfCards[i]?) := fun i => by rw [hb]; exact dat_of dX10_askOfCards i
  show C x w (Qn x w evU emU) 5 0 [(0, .ref t), (1, .ref p1), (2, .int p2), (3, .int p3)] [] M (FX10_askOfCards t p1 p2 p3 M)
  unfold FX10_askOfCards
  refine r_aload_n (pc' := 1) hx (hd 0) rfl 0 rfl rfl ?_
  refine r_get (pc' := 4) (v := .ref (t + 1)) hx (hd 1) fl_10_12 ht rfl (by decide) rfl ?_
  have h1 := hL.1 _ _ _ ht 0 1 7 0 rfl
  refine r_iconst (pc' := 5) (v := 3) hx (hd 2) (by decide) rfl ?_
  refine r_iconst (pc' := 6) (v := (-1)) hx (hd 3) (by decide) rfl ?_
  refine r_callVU (pc' := 9) (As := [.int 3, .int (-1)]) (rest := []) hx (hd 4) md_X7_tell mi_X7_tell ms_X7_tell ml_10_72 (cX7_tell (xl x) w hL (t + 1) h1 3 (-1) M) h1 rfl (by decide) ⟨Nat.le_of_ble_eq_true rfl, Nat.le_of_ble_eq_true rfl⟩ rfl rfl (Nat.le_of_ble_eq_true rfl) rfl (fun M2 => ?_)
  refine r_aload_n (pc' := 10) hx (hd 5) rfl 0 rfl rfl ?_
  refine r_get (pc' := 13) (v := .ref (t + 1)) hx (hd 6) fl_10_12 ht rfl (by decide) rfl ?_
  have h3 := hL.1 _ _ _ ht 0 1 7 0 rfl
  refine r_iconst (pc' := 14) (v := 4) hx (hd 7) (by decide) rfl ?_
  refine r_iconst (pc' := 15) (v := (-1)) hx (hd 8) (by decide) rfl ?_
  refine r_callVU (pc' := 18) (As := [.int 4, .int (-1)]) (rest := []) hx (hd 9) md_X7_tell mi_X7_tell ms_X7_tell ml_10_72 (cX7_tell (xl x) w hL (t + 1) h3 4 (-1) M2) h3 rfl (by decide) ⟨Nat.le_of_ble_eq_true rfl, Nat.le_of_ble_eq_true rfl⟩ rfl rfl (Nat.le_of_ble_eq_true rfl) rfl (fun M4 => ?_)
  refine r_iconst (pc' := 19) (v := 0) hx (hd 10) (by decide) rfl ?_
  refine r_istore (pc' := 21) (L' := [(4, .int 0), (0, .ref t), (1, .ref p1), (2, .int p2), (3, .int p3)]) hx (hd 11) (by decide) rfl rfl ?_
  refine r_sub [1, 2, 3, 4, 0] rfl ?_
  refine r_wl2 (fun v5 M6 => [(0, .ref t), (1, .ref p1), (2, .int p2), (3, .int p3), (4, .int v5)]) (fun v5 M6 => []) (fun v5 M6 => M6) (fun v5 M6 rec7 ih8 => ?_) fuel 0 M4
  refine r_iload (pc' := 23) hx (hd 12) 4 rfl rfl ?_
  refine r_bipush (pc' := 25) (v := 52) hx (hd 13) (by decide) rfl ?_
  refine r_icmp_ge (tgt := 113) (pc' := 28) hx (hd 14) (by decide) (fun _ => ?_) rfl (fun _ => ?_)
  · skip
    exact r_vret hx (hd 58) rfl rfl hz
  · skip
    refine r_aload_n (pc' := 29) hx (hd 15) rfl 0 rfl rfl ?_
    refine r_get (pc' := 32) (v := .ref (t + 1)) hx (hd 16) fl_10_12 ht rfl (by decide) rfl ?_
    have h9 := hL.1 _ _ _ ht 0 1 7 0 rfl
    refine r_iconst (pc' := 33) (v := 1) hx (hd 17) (by decide) rfl ?_
    refine r_iload (pc' := 35) hx (hd 18) 4 rfl rfl ?_
    refine r_iconst (pc' := 36) (v := 4) hx (hd 19) (by decide) rfl ?_
    refine r_idiv (pc' := 37) hx (hd 20) (by decide) rfl ?_
    refine r_callVU (pc' := 40) (As := [.int 1, .int (v5 / 4)]) (rest := []) hx (hd 21) md_X7_tell mi_X7_tell ms_X7_tell ml_10_72 (cX7_tell (xl x) w hL (t + 1) h9 1 (v5 / 4) M6) h9 rfl (by decide) ⟨Nat.le_of_ble_eq_true rfl, Nat.le_of_ble_eq_true rfl⟩ rfl rfl (Nat.le_of_ble_eq_true rfl) rfl (fun M10 => ?_)
    refine r_aload_n (pc' := 41) hx (hd 22) rfl 0 rfl rfl ?_
    refine r_get (pc' := 44) (v := .ref (t + 1)) hx (hd 23) fl_10_12 ht rfl (by decide) rfl ?_
    have h11 := hL.1 _ _ _ ht 0 1 7 0 rfl
    refine r_iconst (pc' := 45) (v := 2) hx (hd 24) (by decide) rfl ?_
    refine r_iload (pc' := 47) hx (hd 25) 4 rfl rfl ?_
    refine r_iconst (pc' := 48) (v := 4) hx (hd 26) (by decide) rfl ?_
    refine r_irem (pc' := 49) hx (hd 27) (by decide) rfl ?_
    refine r_callVU (pc' := 52) (As := [.int 2, .int (irm v5 4)]) (rest := []) hx (hd 28) md_X7_tell mi_X7_tell ms_X7_tell ml_10_72 (cX7_tell (xl x) w hL (t + 1) h11 2 (irm v5 4) M10) h11 rfl (by decide) ⟨Nat.le_of_ble_eq_true rfl, Nat.le_of_ble_eq_true rfl⟩ rfl rfl (Nat.le_of_ble_eq_true rfl) rfl (fun M12 => ?_)
    refine r_aload_n (pc' := 53) hx (hd 29) rfl 0 rfl rfl ?_
    refine r_aload_n (pc' := 54) hx (hd 30) rfl 1 rfl rfl ?_
    refine r_iload_n (pc' := 55) hx (hd 31) rfl 2 rfl rfl ?_
    refine r_callVI (pc' := 58) (As := [.ref p1, .int p2]) (rest := []) hx (hd 32) md_X10_holds mi_X10_holds ms_X10_holds ml_10_99 (cX10_holds (xl x) w hL t ht p1 hp1 p2 M12) ht rfl (by decide) ⟨Nat.le_of_ble_eq_true rfl, Nat.le_of_ble_eq_true rfl⟩ rfl rfl (Nat.le_of_ble_eq_true rfl) (fun r14 => .int r14 :: []) (fun _ => rfl) rfl (fun r14 M13 => ?_)
    refine r_jn1 107 (fun M15 => [(0, .ref t), (1, .ref p1), (2, .int p2), (3, .int p3), (4, .int v5)]) (fun M15 => []) (fun M15 => M15) (fun M15 => ?_) (fun j16 hj17 => ?_)
    · skip
      refine r_iinc (pc' := 110) (v := 1) hx (hd 56) 4 rfl (by decide) (by decide) (fun v18 => [(4, .int v18), (0, .ref t), (1, .ref p1), (2, .int p2), (3, .int p3)]) (fun _ => rfl) rfl (fun v18 => ?_)
      refine r_goto (tgt := 21) hx (hd 57) (by decide) ?_
      refine r_sub [1, 2, 3, 4, 0] rfl ?_
      exact ih8 v18 M15
    refine r_if_ne (tgt := 64) (pc' := 61) hx (hd 33) (by decide) (fun _ => ?_) rfl (fun _ => ?_)
    · skip
      refine r_iload_n (pc' := 65) hx (hd 35) rfl 3 rfl rfl ?_
      refine r_bipush (pc' := 67) (v := 6) hx (hd 36) (by decide) rfl ?_
      refine r_icmp_ne (tgt := 87) (pc' := 70) hx (hd 37) (by decide) (fun _ => ?_) rfl (fun _ => ?_)
      · skip
        refine r_aload_n (pc' := 88) hx (hd 46) rfl 0 rfl rfl ?_
        refine r_get (pc' := 91) (v := .ref (t + 4)) hx (hd 47) fl_10_18 ht rfl (by decide) rfl ?_
        have h19 := hL.1 _ _ _ ht 1 4 20 52 rfl
        refine r_iload (pc' := 93) hx (hd 48) 4 rfl rfl ?_
        refine r_aload_n (pc' := 94) hx (hd 49) rfl 0 rfl rfl ?_
        refine r_get (pc' := 97) (v := .ref (t + 1)) hx (hd 50) fl_10_12 ht rfl (by decide) rfl ?_
        have h20 := hL.1 _ _ _ ht 0 1 7 0 rfl
        refine r_get (pc' := 100) (v := .int (mI M13 (t + 1) 2)) hx (hd 51) fl_10_107 h20 rfl (by decide) rfl ?_
        refine r_iconst (pc' := 101) (v := 1) hx (hd 52) (by decide) rfl ?_
        refine r_bipush (pc' := 103) (v := 31) hx (hd 53) (by decide) rfl ?_
        refine r_callSN (pc' := 106) (As := [.int (mI M13 (t + 1) 2), .int 1, .int 31]) (rest := [.int v5, .ref (t + 4)]) hx (hd 54) md_X11_within mst_X11_within ml_10_110 (cX11_within (xl x) w hL (mI M13 (t + 1) 2) 1 31 M13) ⟨Nat.le_of_ble_eq_true rfl, Nat.le_of_ble_eq_true rfl⟩ rfl rfl (Nat.le_of_ble_eq_true rfl) (fun r21 => .int r21 :: [.int v5, .ref (t + 4)]) (fun _ => M13) (fun _ => ⟨rfl, rfl⟩) rfl (fun r21 _ => ?_)
        refine r_gd (fun h23 => ?_)
        refine r_iast (pc' := 107) (k := ix v5) hx (hd 55) h19 h23 rfl rfl (fun M22 => ?_)
        exact hj17 M22
      · skip
        refine r_aload_n (pc' := 71) hx (hd 38) rfl 0 rfl rfl ?_
        refine r_dup (pc' := 72) hx (hd 39) rfl rfl ?_
        refine r_get (pc' := 75) (v := .long (mJ M13 t 3)) hx (hd 40) fl_10_90 ht rfl (by decide) rfl ?_
        refine r_iload (pc' := 77) hx (hd 41) 4 rfl rfl ?_
        refine r_callSN (pc' := 80) (As := [.int v5]) (rest := [.long (mJ M13 t 3), .ref t]) hx (hd 42) md_X11_bit mst_X11_bit ml_10_103 (cX11_bit (xl x) w hL v5 M13) ⟨Nat.le_of_ble_eq_true rfl, Nat.le_of_ble_eq_true rfl⟩ rfl rfl (Nat.le_of_ble_eq_true rfl) (fun r24 => .long r24 :: [.long (mJ M13 t 3), .ref t]) (fun _ => M13) (fun _ => ⟨rfl, rfl⟩) rfl (fun r24 _ => ?_)
        refine r_lor (pc' := 81) hx (hd 43) rfl ?_
        refine r_putJ (pc' := 84) hx (hd 44) fp_10_90 ht rfl (by decide) rfl (fun M25 => ?_)
        refine r_goto (tgt := 107) hx (hd 45) (by decide) ?_
        exact hj17 M25
    · skip
      refine r_goto (tgt := 107) hx (hd 34) (by decide) ?_
      exact hj17 M13
abbrev yX10_tellItem : MethodName := ({ cls := "CribbageRoom$Worth", name := "tellItem", desc := "(II)V" } : Jvm.MethodName)
def tbX10_tellItem : List (Nat × Instr × Nat) := [(0, .iload_n 1, 1), (1, .iconst 5, 1), (2, .if_icmp .ne 7, 3), (5, .iload_n 2, 1), (6, .goto 15, 3), (9, .iload_n 1, 1), (10, .iconst 4, 1), (11, .if_icmp .ne 9, 3), (14, .iload_n 2, 1), (15, .iconst 2, 1), (16, .idiv, 1), (17, .goto 4, 3), (20, .iconst (-1), 1), (21, .istore_n 3, 1), (22, .iload_n 1, 1), (23, .iconst 4, 1), (24, .if_icmp .ne 11, 3), (27, .iconst 4, 1), (28, .iload_n 2, 1), (29, .iconst 2, 1), (30, .irem, 1), (31, .iadd, 1), (32, .goto 22, 3), (35, .iload_n 1, 1), (36, .iconst 2, 1), (37, .if_icmp .ne 7, 3), (40, .iconst 2, 1), (41, .goto 13, 3), (44, .iload_n 1, 1), (45, .iconst 5, 1), (46, .if_icmp .ne 7, 3), (49, .iconst (-1), 1), (50, .goto 4, 3), (53, .iload_n 2, 1), (54, .istore 4, 2), (56, .aload_n 0, 1), (57, .getfield 12, 3), (60, .iconst 1, 1), (61, .iload_n 1, 1), (62, .iconst 2, 1), (63, .if_icmp .ne 7, 3), (66, .iload_n 2, 1), (67, .goto 4, 3), (70, .iconst (-1), 1), (71, .invokevirtual 72, 3), (74, .aload_n 0, 1), (75, .getfield 12, 3), (78, .iconst 2, 1), (79, .iload_n 3, 1), (80, .invokevirtual 72, 3), (83, .aload_n 0, 1), (84, .getfield 12, 3), (87, .iconst 3, 1), (88, .iload 4, 2), (90, .invokevirtual 72, 3), (93, .return_, 1)]
theorem dX10_tellItem : ∀ q ∈ tbX10_tellItem, decode prog_12_method_9_code q.1 = .ok q.2 := by decide +kernel
set_option maxRecDepth 20000 in
theorem cX10_tellItem (l : Launch) (w : WX) (hL : Lay w) (t : Nat) (ht : Wat w t 10 0) (p1 : Int32) (p2 : Int32) (M : Mem) : Ct l w yX10_tellItem prog_12_method_9_code 5 (Option.none : Option FieldType) 1 22 evU emU [.ref t, .int p1, .int p2] M (FX10_tellItem t p1 p2 M) := by
  refine ct_of (by decide) (Nat.le_of_ble_eq_true rfl) (fun x hl hx hb hz => ?_)
  subst hl
  have hd : ∀ i, DAt (xc x).code (tbX10_tellItem[i]?) := fun i => by rw [hb]; exact dat_of dX10_tellItem i
  show C x w (Qn x w evU emU) 5 0 [(0, .ref t), (1, .int p1), (2, .int p2)] [] M (FX10_tellItem t p1 p2 M)
  unfold FX10_tellItem
  refine r_iload_n (pc' := 1) hx (hd 0) rfl 1 rfl rfl ?_
  refine r_iconst (pc' := 2) (v := 5) hx (hd 1) (by decide) rfl ?_
  refine r_jn1 21 (fun v1 => [(0, .ref t), (1, .int p1), (2, .int p2)]) (fun v1 => [.int v1]) (fun v1 => M) (fun v1 => ?_) (fun j2 hj3 => ?_)
  · skip
    refine r_istore_n (pc' := 22) (L' := [(3, .int v1), (0, .ref t), (1, .int p1), (2, .int p2)]) hx (hd 13) rfl (by decide) rfl rfl ?_
    refine r_iload_n (pc' := 23) hx (hd 14) rfl 2 rfl rfl ?_
    refine r_iconst (pc' := 24) (v := 4) hx (hd 15) (by decide) rfl ?_
    refine r_jn1 54 (fun v4 => [(0, .ref t), (1, .int p1), (2, .int p2), (3, .int v1)]) (fun v4 => [.int v4]) (fun v4 => M) (fun v4 => ?_) (fun j5 hj6 => ?_)
    · skip
      refine r_istore (pc' := 56) (L' := [(4, .int v4), (0, .ref t), (1, .int p1), (2, .int p2), (3, .int v1)]) hx (hd 34) (by decide) rfl rfl ?_
      refine r_aload_n (pc' := 57) hx (hd 35) rfl 1 rfl rfl ?_
      refine r_get (pc' := 60) (v := .ref (t + 1)) hx (hd 36) fl_10_12 ht rfl (by decide) rfl ?_
      have h7 := hL.1 _ _ _ ht 0 1 7 0 rfl
      refine r_iconst (pc' := 61) (v := 1) hx (hd 37) (by decide) rfl ?_
      refine r_iload_n (pc' := 62) hx (hd 38) rfl 2 rfl rfl ?_
      refine r_iconst (pc' := 63) (v := 2) hx (hd 39) (by decide) rfl ?_
      refine r_jn1 71 (fun v8 => [(0, .ref t), (3, .int v1), (4, .int v4)]) (fun v8 => [.int v8, .int 1, .ref (t + 1)]) (fun v8 => M) (fun v8 => ?_) (fun j9 hj10 => ?_)
      · skip
        refine r_callVU (pc' := 74) (As := [.int 1, .int v8]) (rest := []) hx (hd 44) md_X7_tell mi_X7_tell ms_X7_tell ml_10_72 (cX7_tell (xl x) w hL (t + 1) h7 1 v8 M) h7 rfl (by decide) ⟨Nat.le_of_ble_eq_true rfl, Nat.le_of_ble_eq_true rfl⟩ rfl rfl (Nat.le_of_ble_eq_true rfl) rfl (fun M11 => ?_)
        refine r_aload_n (pc' := 75) hx (hd 45) rfl 0 rfl rfl ?_
        refine r_get (pc' := 78) (v := .ref (t + 1)) hx (hd 46) fl_10_12 ht rfl (by decide) rfl ?_
        have h12 := hL.1 _ _ _ ht 0 1 7 0 rfl
        refine r_iconst (pc' := 79) (v := 2) hx (hd 47) (by decide) rfl ?_
        refine r_iload_n (pc' := 80) hx (hd 48) rfl 1 rfl rfl ?_
        refine r_callVU (pc' := 83) (As := [.int 2, .int v1]) (rest := []) hx (hd 49) md_X7_tell mi_X7_tell ms_X7_tell ml_10_72 (cX7_tell (xl x) w hL (t + 1) h12 2 v1 M11) h12 rfl (by decide) ⟨Nat.le_of_ble_eq_true rfl, Nat.le_of_ble_eq_true rfl⟩ rfl rfl (Nat.le_of_ble_eq_true rfl) rfl (fun M13 => ?_)
        refine r_aload_n (pc' := 84) hx (hd 50) rfl 0 rfl rfl ?_
        refine r_get (pc' := 87) (v := .ref (t + 1)) hx (hd 51) fl_10_12 ht rfl (by decide) rfl ?_
        have h14 := hL.1 _ _ _ ht 0 1 7 0 rfl
        refine r_iconst (pc' := 88) (v := 3) hx (hd 52) (by decide) rfl ?_
        refine r_iload (pc' := 90) hx (hd 53) 2 rfl rfl ?_
        refine r_callVU (pc' := 93) (As := [.int 3, .int v4]) (rest := []) hx (hd 54) md_X7_tell mi_X7_tell ms_X7_tell ml_10_72 (cX7_tell (xl x) w hL (t + 1) h14 3 v4 M13) h14 rfl (by decide) ⟨Nat.le_of_ble_eq_true rfl, Nat.le_of_ble_eq_true rfl⟩ rfl rfl (Nat.le_of_ble_eq_true rfl) rfl (fun M15 => ?_)
        exact r_vret hx (hd 55) rfl rfl hz
      refine r_icmp_ne (tgt := 70) (pc' := 66) hx (hd 40) (by decide) (fun _ => ?_) rfl (fun _ => ?_)
      · skip
        refine r_iconst (pc' := 71) (v := (-1)) hx (hd 43) (by decide) rfl ?_
        refine r_sub [1, 4, 0] rfl ?_
        exact hj10 (-1)
      · skip
        refine r_iload_n (pc' := 67) hx (hd 41) rfl 3 rfl rfl ?_
        refine r_goto (tgt := 71) hx (hd 42) (by decide) ?_
        refine r_sub [1, 4, 0] rfl ?_
        exact hj10 p2
    refine r_icmp_ne (tgt := 35) (pc' := 27) hx (hd 16) (by decide) (fun _ => ?_) rfl (fun _ => ?_)
    · skip
      refine r_iload_n (pc' := 36) hx (hd 23) rfl 2 rfl rfl ?_
      refine r_iconst (pc' := 37) (v := 2) hx (hd 24) (by decide) rfl ?_
      refine r_icmp_ne (tgt := 44) (pc' := 40) hx (hd 25) (by decide) (fun _ => ?_) rfl (fun _ => ?_)
      · skip
        refine r_iload_n (pc' := 45) hx (hd 28) rfl 2 rfl rfl ?_
        refine r_iconst (pc' := 46) (v := 5) hx (hd 29) (by decide) rfl ?_
        refine r_icmp_ne (tgt := 53) (pc' := 49) hx (hd 30) (by decide) (fun _ => ?_) rfl (fun _ => ?_)
        · skip
          refine r_iload_n (pc' := 54) hx (hd 33) rfl 3 rfl rfl ?_
          refine r_sub [1, 2, 3, 0] rfl ?_
          exact hj6 p2
        · skip
          refine r_iconst (pc' := 50) (v := (-1)) hx (hd 31) (by decide) rfl ?_
          refine r_goto (tgt := 54) hx (hd 32) (by decide) ?_
          refine r_sub [1, 2, 3, 0] rfl ?_
          exact hj6 (-1)
      · skip
        refine r_iconst (pc' := 41) (v := 2) hx (hd 26) (by decide) rfl ?_
        refine r_goto (tgt := 54) hx (hd 27) (by decide) ?_
        refine r_sub [1, 2, 3, 0] rfl ?_
        exact hj6 2
    · skip
      refine r_iconst (pc' := 28) (v := 4) hx (hd 17) (by decide) rfl ?_
      refine r_iload_n (pc' := 29) hx (hd 18) rfl 3 rfl rfl ?_
      refine r_iconst (pc' := 30) (v := 2) hx (hd 19) (by decide) rfl ?_
      refine r_irem (pc' := 31) hx (hd 20) (by decide) rfl ?_
      refine r_iadd (pc' := 32) hx (hd 21) rfl ?_
      refine r_goto (tgt := 54) hx (hd 22) (by decide) ?_
      refine r_sub [1, 2, 3, 0] rfl ?_
      exact hj6 (4 + (irm p2 2))
  refine r_icmp_ne (tgt := 9) (pc' := 5) hx (hd 2) (by decide) (fun _ => ?_) rfl (fun _ => ?_)
  · skip
    refine r_iload_n (pc' := 10) hx (hd 5) rfl 1 rfl rfl ?_
    refine r_iconst (pc' := 11) (v := 4) hx (hd 6) (by decide) rfl ?_
    refine r_icmp_ne (tgt := 20) (pc' := 14) hx (hd 7) (by decide) (fun _ => ?_) rfl (fun _ => ?_)
    · skip
      refine r_iconst (pc' := 21) (v := (-1)) hx (hd 12) (by decide) rfl ?_
      exact hj3 (-1)
    · skip
      refine r_iload_n (pc' := 15) hx (hd 8) rfl 2 rfl rfl ?_
      refine r_iconst (pc' := 16) (v := 2) hx (hd 9) (by decide) rfl ?_
      refine r_idiv (pc' := 17) hx (hd 10) (by decide) rfl ?_
      refine r_goto (tgt := 21) hx (hd 11) (by decide) ?_
      exact hj3 (p2 / 2)
  · skip
    refine r_iload_n (pc' := 6) hx (hd 3) rfl 2 rfl rfl ?_
    refine r_goto (tgt := 21) hx (hd 4) (by decide) ?_
    exact hj3 p2
abbrev yX10_askOfCounts : MethodName := ({ cls := "CribbageRoom$Worth", name := "askOfCounts", desc := "(LCribbageRoom$Text;II)V" } : Jvm.MethodName)
def tbX10_askOfCounts : List (Nat × Instr × Nat) := [(0, .iload_n 3, 1), (1, .ifCond .lt 9, 3), (4, .iload_n 3, 1), (5, .bipush 6, 2), (7, .if_icmp .lt 4, 3), (10, .return_, 1), (11, .iconst 0, 1), (12, .istore 4, 2), (14, .iload 4, 2), (16, .iconst 3, 1), (17, .if_icmp .ge 104, 3), (20, .aload_n 0, 1), (21, .getfield 12, 3), (24, .iconst 4, 1), (25, .iload 4, 2), (27, .iconst 1, 1), (28, .if_icmp .ne 7, 3), (31, .iconst 1, 1), (32, .goto 13, 3), (35, .iload 4, 2), (37, .ifCond .ne 7, 3), (40, .iconst 0, 1), (41, .goto 4, 3), (44, .iconst (-1), 1), (45, .invokevirtual 72, 3), (48, .getstatic 114, 3), (51, .iload_n 3, 1), (52, .iaload, 1), (53, .istore 5, 2), (55, .iload 5, 2), (57, .getstatic 117, 3), (60, .iload_n 3, 1), (61, .iaload, 1), (62, .if_icmp .ge 53, 3), (65, .aload_n 0, 1), (66, .iload_n 3, 1), (67, .iload 5, 2), (69, .invokevirtual 120, 3), (72, .aload_n 0, 1), (73, .aload_n 1, 1), (74, .iload_n 2, 1), (75, .invokevirtual 99, 3), (78, .ifCond .eq 31, 3), (81, .aload_n 0, 1), (82, .getfield 24, 3), (85, .iload_n 3, 1), (86, .aaload, 1), (87, .iload 4, 2), (89, .bipush 13, 2), (91, .imul, 1), (92, .iload 5, 2), (94, .iadd, 1), (95, .aload_n 0, 1), (96, .getfield 12, 3), (99, .getfield 107, 3), (102, .iconst 0, 1), (103, .bipush 99, 2), (105, .invokestatic 110, 3), (108, .iastore, 1), (109, .iinc 5 1, 3), (112, .goto (-57), 3), (115, .iinc 4 1, 3), (118, .goto (-104), 3), (121, .return_, 1)]
theorem dX10_askOfCounts : ∀ q ∈ tbX10_askOfCounts, decode prog_12_method_8_code q.1 = .ok q.2 := by decide +kernel
set_option maxRecDepth 20000 in
theorem cX10_askOfCounts (l : Launch) (w : WX) (hL : Lay w) (t : Nat) (ht : Wat w t 10 0) (p1 : Nat) (hp1 : Wat w p1 9 0) (p2 : Int32) (p3 : Int32) (M : Mem) : Ct l w yX10_askOfCounts prog_12_method_8_code 6 (Option.none : Option FieldType) 4 102 evU emU [.ref t, .ref p1, .int p2, .int p3] M (FX10_askOfCounts t p1 p2 p3 M) := by
  refine ct_of (by decide) (Nat.le_of_ble_eq_true rfl) (fun x hl hx hb hz => ?_)
  subst hl
  have hd : ∀ i, DAt (xc x).code (tbX10_askOfCounts[i]?) := fun i => by rw [hb]; exact dat_of dX10_askOfCounts i
  show C x w (Qn x w evU emU) 6 0 [(0, .ref t), (1, .ref p1), (2, .int p2), (3, .int p3)] [] M (FX10_askOfCounts t p1 p2 p3 M)
  unfold FX10_askOfCounts
  refine r_iload_n (pc' := 1) hx (hd 0) rfl 3 rfl rfl ?_
  refine r_jn0 10 ([]) ([]) (M) (?_) (fun j1 hj2 => ?_)
  · skip
    exact r_vret hx (hd 5) rfl rfl hz
  refine r_if_lt (tgt := 10) (pc' := 4) hx (hd 1) (by decide) (fun _ => ?_) rfl (fun _ => ?_)
  · skip
    refine r_sub [] rfl ?_
    exact hj2
  · skip
    refine r_iload_n (pc' := 5) hx (hd 2) rfl 3 rfl rfl ?_
    refine r_bipush (pc' := 7) (v := 6) hx (hd 3) (by decide) rfl ?_
    refine r_icmp_lt (tgt := 11) (pc' := 10) hx (hd 4) (by decide) (fun _ => ?_) rfl (fun _ => ?_)
    · skip
      refine r_iconst (pc' := 12) (v := 0) hx (hd 6) (by decide) rfl ?_
      refine r_istore (pc' := 14) (L' := [(4, .int 0), (0, .ref t), (1, .ref p1), (2, .int p2), (3, .int p3)]) hx (hd 7) (by decide) rfl rfl ?_
      refine r_sub [1, 2, 3, 4, 0] rfl ?_
      refine r_wl2 (fun v3 M4 => [(0, .ref t), (1, .ref p1), (2, .int p2), (3, .int p3), (4, .int v3)]) (fun v3 M4 => []) (fun v3 M4 => M4) (fun v3 M4 rec5 ih6 => ?_) fuel 0 M
      refine r_iload (pc' := 16) hx (hd 8) 4 rfl rfl ?_
      refine r_iconst (pc' := 17) (v := 3) hx (hd 9) (by decide) rfl ?_
      refine r_icmp_ge (tgt := 121) (pc' := 20) hx (hd 10) (by decide) (fun _ => ?_) rfl (fun _ => ?_)
      · skip
        exact r_vret hx (hd 63) rfl rfl hz
      · skip
        refine r_aload_n (pc' := 21) hx (hd 11) rfl 0 rfl rfl ?_
        refine r_get (pc' := 24) (v := .ref (t + 1)) hx (hd 12) fl_10_12 ht rfl (by decide) rfl ?_
        have h7 := hL.1 _ _ _ ht 0 1 7 0 rfl
        refine r_iconst (pc' := 25) (v := 4) hx (hd 13) (by decide) rfl ?_
        refine r_iload (pc' := 27) hx (hd 14) 4 rfl rfl ?_
        refine r_iconst (pc' := 28) (v := 1) hx (hd 15) (by decide) rfl ?_
        refine r_jn1 45 (fun v8 => [(0, .ref t), (1, .ref p1), (2, .int p2), (3, .int p3), (4, .int v3)]) (fun v8 => [.int v8, .int 4, .ref (t + 1)]) (fun v8 => M4) (fun v8 => ?_) (fun j9 hj10 => ?_)
        · skip
          refine r_callVU (pc' := 48) (As := [.int 4, .int v8]) (rest := []) hx (hd 24) md_X7_tell mi_X7_tell ms_X7_tell ml_10_72 (cX7_tell (xl x) w hL (t + 1) h7 4 v8 M4) h7 rfl (by decide) ⟨Nat.le_of_ble_eq_true rfl, Nat.le_of_ble_eq_true rfl⟩ rfl rfl (Nat.le_of_ble_eq_true rfl) rfl (fun M11 => ?_)
          refine r_gets (pc' := 51) (i := 3) hx (hd 25) rfl gs_10_114 rfl ?_
          refine r_iload_n (pc' := 52) hx (hd 26) rfl 3 rfl rfl ?_
          refine r_gd (fun h12 => ?_)
          refine r_sald (pc' := 53) (i := 3) (k := ix p3) (v := (([0, 1, 0, 3, 0, 0] : List Int32).getD (ix p3) 0)) hx (hd 27) rfl h12 rfl rfl rfl ?_
          refine r_nmI (fun v13 => ?_)
          refine r_istore (pc' := 55) (L' := [(5, .int v13), (0, .ref t), (1, .ref p1), (2, .int p2), (3, .int p3), (4, .int v3)]) hx (hd 28) (by decide) rfl rfl ?_
          refine r_sub [1, 2, 3, 4, 5, 0] rfl ?_
          refine r_wl2 (fun v14 M15 => [(0, .ref t), (1, .ref p1), (2, .int p2), (3, .int p3), (4, .int v3), (5, .int v14)]) (fun v14 M15 => []) (fun v14 M15 => M15) (fun v14 M15 rec16 ih17 => ?_) fuel v13 M11
          refine r_iload (pc' := 57) hx (hd 29) 5 rfl rfl ?_
          refine r_gets (pc' := 60) (i := 4) hx (hd 30) rfl gs_10_117 rfl ?_
          refine r_iload_n (pc' := 61) hx (hd 31) rfl 3 rfl rfl ?_
          refine r_gd (fun h18 => ?_)
          refine r_sald (pc' := 62) (i := 4) (k := ix p3) (v := (([0, 9, 13, 9, 8, 4] : List Int32).getD (ix p3) 0)) hx (hd 32) rfl h18 rfl rfl rfl ?_
          refine r_icmp_ge (tgt := 115) (pc' := 65) hx (hd 33) (by decide) (fun _ => ?_) rfl (fun _ => ?_)
          · skip
            refine r_iinc (pc' := 118) (v := 1) hx (hd 61) 4 rfl (by decide) (by decide) (fun v19 => [(4, .int v19), (0, .ref t), (1, .ref p1), (2, .int p2), (3, .int p3), (5, .int v14)]) (fun _ => rfl) rfl (fun v19 => ?_)
            refine r_goto (tgt := 14) hx (hd 62) (by decide) ?_
            refine r_sub [1, 2, 3, 4, 0] rfl ?_
            exact ih6 v19 M15
          · skip
            refine r_aload_n (pc' := 66) hx (hd 34) rfl 0 rfl rfl ?_
            refine r_iload_n (pc' := 67) hx (hd 35) rfl 3 rfl rfl ?_
            refine r_iload (pc' := 69) hx (hd 36) 5 rfl rfl ?_
            refine r_callVU (pc' := 72) (As := [.int p3, .int v14]) (rest := []) hx (hd 37) md_X10_tellItem mi_X10_tellItem ms_X10_tellItem ml_10_120 (cX10_tellItem (xl x) w hL t ht p3 v14 M15) ht rfl (by decide) ⟨Nat.le_of_ble_eq_true rfl, Nat.le_of_ble_eq_true rfl⟩ rfl rfl (Nat.le_of_ble_eq_true rfl) rfl (fun M20 => ?_)
            refine r_aload_n (pc' := 73) hx (hd 38) rfl 0 rfl rfl ?_
            refine r_aload_n (pc' := 74) hx (hd 39) rfl 1 rfl rfl ?_
            refine r_iload_n (pc' := 75) hx (hd 40) rfl 2 rfl rfl ?_
            refine r_callVI (pc' := 78) (As := [.ref p1, .int p2]) (rest := []) hx (hd 41) md_X10_holds mi_X10_holds ms_X10_holds ml_10_99 (cX10_holds (xl x) w hL t ht p1 hp1 p2 M20) ht rfl (by decide) ⟨Nat.le_of_ble_eq_true rfl, Nat.le_of_ble_eq_true rfl⟩ rfl rfl (Nat.le_of_ble_eq_true rfl) (fun r22 => .int r22 :: []) (fun _ => rfl) rfl (fun r22 M21 => ?_)
            refine r_jn1 109 (fun M23 => [(0, .ref t), (1, .ref p1), (2, .int p2), (3, .int p3), (4, .int v3), (5, .int v14)]) (fun M23 => []) (fun M23 => M23) (fun M23 => ?_) (fun j24 hj25 => ?_)
            · skip
              refine r_iinc (pc' := 112) (v := 1) hx (hd 59) 5 rfl (by decide) (by decide) (fun v26 => [(5, .int v26), (0, .ref t), (1, .ref p1), (2, .int p2), (3, .int p3), (4, .int v3)]) (fun _ => rfl) rfl (fun v26 => ?_)
              refine r_goto (tgt := 55) hx (hd 60) (by decide) ?_
              refine r_sub [1, 2, 3, 4, 5, 0] rfl ?_
              exact ih17 v26 M23
            refine r_if_eq (tgt := 109) (pc' := 81) hx (hd 42) (by decide) (fun _ => ?_) rfl (fun _ => ?_)
            · skip
              exact hj25 M21
            · skip
              refine r_aload_n (pc' := 82) hx (hd 43) rfl 0 rfl rfl ?_
              refine r_get (pc' := 85) (v := .ref (t + 5)) hx (hd 44) fl_10_24 ht rfl (by decide) rfl ?_
              have h27 := hL.1 _ _ _ ht 2 5 33 6 rfl
              refine r_iload_n (pc' := 86) hx (hd 45) rfl 3 rfl rfl ?_
              refine r_gd (fun h28 => ?_)
              refine r_aald (pc' := 87) (k := ix p3) hx (hd 46) h27 rfl rfl rfl h28 rfl rfl ?_
              have h29 := hL.2 _ _ _ h27 5 1 1 20 39 rfl (ix p3) (inb_lt h28)
              refine r_iload (pc' := 89) hx (hd 47) 4 rfl rfl ?_
              refine r_bipush (pc' := 91) (v := 13) hx (hd 48) (by decide) rfl ?_
              refine r_imul (pc' := 92) hx (hd 49) rfl ?_
              refine r_iload (pc' := 94) hx (hd 50) 5 rfl rfl ?_
              refine r_iadd (pc' := 95) hx (hd 51) rfl ?_
              refine r_aload_n (pc' := 96) hx (hd 52) rfl 0 rfl rfl ?_
              refine r_get (pc' := 99) (v := .ref (t + 1)) hx (hd 53) fl_10_12 ht rfl (by decide) rfl ?_
              have h30 := hL.1 _ _ _ ht 0 1 7 0 rfl
              refine r_get (pc' := 102) (v := .int (mI M21 (t + 1) 2)) hx (hd 54) fl_10_107 h30 rfl (by decide) rfl ?_
              refine r_iconst (pc' := 103) (v := 0) hx (hd 55) (by decide) rfl ?_
              refine r_bipush (pc' := 105) (v := 99) hx (hd 56) (by decide) rfl ?_
              refine r_callSN (pc' := 108) (As := [.int (mI M21 (t + 1) 2), .int 0, .int 99]) (rest := [.int ((v3 * 13) + v14), .ref ((t + 5) + 1 + 1 * (ix p3))]) hx (hd 57) md_X11_within mst_X11_within ml_10_110 (cX11_within (xl x) w hL (mI M21 (t + 1) 2) 0 99 M21) ⟨Nat.le_of_ble_eq_true rfl, Nat.le_of_ble_eq_true rfl⟩ rfl rfl (Nat.le_of_ble_eq_true rfl) (fun r31 => .int r31 :: [.int ((v3 * 13) + v14), .ref ((t + 5) + 1 + 1 * (ix p3))]) (fun _ => M21) (fun _ => ⟨rfl, rfl⟩) rfl (fun r31 _ => ?_)
              refine r_gd (fun h33 => ?_)
              refine r_iast (pc' := 109) (k := ix ((v3 * 13) + v14)) hx (hd 58) h29 h33 rfl rfl (fun M32 => ?_)
              exact hj25 M32
        refine r_icmp_ne (tgt := 35) (pc' := 31) hx (hd 16) (by decide) (fun _ => ?_) rfl (fun _ => ?_)
        · skip
          refine r_iload (pc' := 37) hx (hd 19) 4 rfl rfl ?_
          refine r_if_ne (tgt := 44) (pc' := 40) hx (hd 20) (by decide) (fun _ => ?_) rfl (fun _ => ?_)
          · skip
            refine r_iconst (pc' := 45) (v := (-1)) hx (hd 23) (by decide) rfl ?_
            exact hj10 (-1)
          · skip
            refine r_iconst (pc' := 41) (v := 0) hx (hd 21) (by decide) rfl ?_
            refine r_goto (tgt := 45) hx (hd 22) (by decide) ?_
            exact hj10 0
        · skip
          refine r_iconst (pc' := 32) (v := 1) hx (hd 17) (by decide) rfl ?_
          refine r_goto (tgt := 45) hx (hd 18) (by decide) ?_
          exact hj10 1
    · skip
      refine r_sub [] rfl ?_
      exact hj2
abbrev yX10_fit : MethodName := ({ cls := "CribbageRoom$Worth", name := "fit", desc := "(LCribbageRoom$State;ILCribbageRoom$Table;)V" } : Jvm.MethodName)
def tbX10_fit : List (Nat × Instr × Nat) := [(0, .aload_n 1, 1), (1, .iload_n 2, 1), (2, .invokevirtual 31, 3), (5, .astore 4, 2), (7, .aload_n 3, 1), (8, .getfield 37, 3), (11, .istore 5, 2), (13, .aload_n 1, 1), (14, .iconst 2, 1), (15, .invokevirtual 43, 3), (18, .istore 6, 2), (20, .aload_n 0, 1), (21, .aload_n 1, 1), (22, .iconst 3, 1), (23, .invokevirtual 43, 3), (26, .putfield 47, 3), (29, .aload 4, 2), (31, .ifnull 29, 3), (34, .aload 4, 2), (36, .getfield 50, 3), (39, .ifCond .eq 21, 3), (42, .aload_n 0, 1), (43, .getfield 56, 3), (46, .iload 5, 2), (48, .if_icmp .ne 16, 3), (51, .aload_n 0, 1), (52, .getfield 59, 3), (55, .iload 6, 2), (57, .if_icmp .ne 7, 3), (60, .iconst 1, 1), (61, .goto 4, 3), (64, .iconst 0, 1), (65, .istore 7, 2), (67, .aload_n 0, 1), (68, .getfield 62, 3), (71, .ifCond .eq 18, 3), (74, .aload_n 0, 1), (75, .getfield 65, 3), (78, .aload 4, 2), (80, .if_acmp .ne 9, 3), (83, .iload 7, 2), (85, .ifCond .eq 4, 3), (88, .return_, 1), (89, .aload_n 0, 1), (90, .iconst 1, 1), (91, .putfield 62, 3), (94, .aload_n 0, 1), (95, .aload 4, 2), (97, .putfield 65, 3), (100, .aload_n 0, 1), (101, .iload 5, 2), (103, .putfield 56, 3), (106, .aload_n 0, 1), (107, .iload 6, 2), (109, .putfield 59, 3), (112, .aload_n 0, 1), (113, .invokevirtual 69, 3), (116, .aload_n 0, 1), (117, .getfield 12, 3), (120, .iconst 0, 1), (121, .aload_n 0, 1), (122, .getfield 56, 3), (125, .invokevirtual 72, 3), (128, .aload_n 0, 1), (129, .getfield 12, 3), (132, .iconst 5, 1), (133, .aload_n 0, 1), (134, .getfield 59, 3), (137, .invokevirtual 72, 3), (140, .iconst 0, 1), (141, .istore 8, 2), (143, .aload 4, 2), (145, .ifnull 64, 3), (148, .iload 8, 2), (150, .aload 4, 2), (152, .getfield 76, 3), (155, .if_icmp .ge 54, 3), (158, .aload 4, 2), (160, .iload 8, 2), (162, .iconst 0, 1), (163, .invokevirtual 79, 3), (166, .istore 9, 2), (168, .iload 9, 2), (170, .ifCond .eq 10, 3), (173, .iload 9, 2), (175, .bipush 6, 2), (177, .if_icmp .ne 16, 3), (180, .aload_n 0, 1), (181, .aload 4, 2), (183, .iload 8, 2), (185, .iload 9, 2), (187, .invokevirtual 83, 3), (190, .goto 13, 3), (193, .aload_n 0, 1), (194, .aload 4, 2), (196, .iload 8, 2), (198, .iload 9, 2), (200, .invokevirtual 87, 3), (203, .iinc 8 1, 3), (206, .goto (-63), 3), (209, .return_, 1)]
theorem dX10_fit : ∀ q ∈ tbX10_fit, decode prog_12_method_5_code q.1 = .ok q.2 := by decide +kernel
set_option maxRecDepth 20000 in
theorem cX10_fit (l : Launch) (w : WX) (hL : Lay w) (t : Nat) (ht : Wat w t 10 0) (p1 : Nat) (hp1 : Wat w p1 6 0) (p2 : Int32) (p3 : Nat) (hp3 : Wat w p3 8 0) (M : Mem) : Ct l w yX10_fit prog_12_method_5_code 10 (Option.none : Option FieldType) 5 127 evU emU [.ref t, .ref p1, .int p2, .ref p3] M (FX10_fit t p1 p2 p3 M) := by
  refine ct_of (by decide) (Nat.le_of_ble_eq_true rfl) (fun x hl hx hb hz => ?_)
  subst hl
  have hd : ∀ i, DAt (xc x).code (tbX10_fit[i]?) := fun i => by rw [hb]; exact dat_of dX10_fit i
  show C x w (Qn x w evU emU) 10 0 [(0, .ref t), (1, .ref p1), (2, .int p2), (3, .ref p3)] [] M (FX10_fit t p1 p2 p3 M)
  unfold FX10_fit
  refine r_aload_n (pc' := 1) hx (hd 0) rfl 1 rfl rfl ?_
  refine r_iload_n (pc' := 2) hx (hd 1) rfl 2 rfl rfl ?_
  refine r_callV (pc' := 5) (As := [.int p2]) (rest := []) hx (hd 2) md_X6_lawAt mi_X6_lawAt ms_X6_lawAt ml_10_31 (cX6_lawAt (xl x) w hL p1 hp1 p2 M) hp1 rfl (by decide) ⟨Nat.le_of_ble_eq_true rfl, Nat.le_of_ble_eq_true rfl⟩ rfl rfl (Nat.le_of_ble_eq_true rfl) (fun r1 => va_rf r1 :: []) (fun _ => M) (fun _ => ⟨rfl, rfl⟩) rfl (fun r1 hgr1 => ?_)
  refine r_wt (fun wt2 => ?_)
  refine r_astoreN (pc' := 7) (L' := [(4, va_rf r1), (0, .ref t), (1, .ref p1), (2, .int p2), (3, .ref p3)]) hx (hd 3) (by decide) rfl rfl ?_
  refine r_aload_n (pc' := 8) hx (hd 4) rfl 4 rfl rfl ?_
  refine r_get (pc' := 11) (v := .int (mI M p3 12)) hx (hd 5) fl_10_37 hp3 rfl (by decide) rfl ?_
  refine r_nmI (fun v3 => ?_)
  refine r_istore (pc' := 13) (L' := [(5, .int v3), (4, va_rf r1), (0, .ref t), (1, .ref p1), (2, .int p2), (3, .ref p3)]) hx (hd 6) (by decide) (by cases r1 <;> rfl) rfl ?_
  refine r_aload_n (pc' := 14) hx (hd 7) rfl 3 rfl rfl ?_
  refine r_iconst (pc' := 15) (v := 2) hx (hd 8) (by decide) rfl ?_
  refine r_callV (pc' := 18) (As := [.int 2]) (rest := []) hx (hd 9) md_X6_term mi_X6_term ms_X6_term ml_10_43 (cX6_term (xl x) w hL p1 hp1 2 M) hp1 rfl (by decide) ⟨Nat.le_of_ble_eq_true rfl, Nat.le_of_ble_eq_true rfl⟩ rfl rfl (Nat.le_of_ble_eq_true rfl) (fun r4 => .int r4 :: []) (fun _ => M) (fun _ => ⟨rfl, rfl⟩) rfl (fun r4 _ => ?_)
  refine r_istore (pc' := 20) (L' := [(6, .int r4), (5, .int v3), (4, va_rf r1), (0, .ref t), (1, .ref p1), (2, .int p2), (3, .ref p3)]) hx (hd 10) (by decide) rfl rfl ?_
  refine r_aload_n (pc' := 21) hx (hd 11) rfl 3 rfl rfl ?_
  refine r_aload_n (pc' := 22) hx (hd 12) rfl 4 rfl rfl ?_
  refine r_iconst (pc' := 23) (v := 3) hx (hd 13) (by decide) rfl ?_
  refine r_callV (pc' := 26) (As := [.int 3]) (rest := [.ref t]) hx (hd 14) md_X6_term mi_X6_term ms_X6_term ml_10_43 (cX6_term (xl x) w hL p1 hp1 3 M) hp1 rfl (by decide) ⟨Nat.le_of_ble_eq_true rfl, Nat.le_of_ble_eq_true rfl⟩ rfl rfl (Nat.le_of_ble_eq_true rfl) (fun r5 => .int r5 :: [.ref t]) (fun _ => M) (fun _ => ⟨rfl, rfl⟩) rfl (fun r5 _ => ?_)
  refine r_putI (pc' := 29) hx (hd 15) fp_10_47 ht rfl (by decide) rfl (fun M6 => ?_)
  refine r_aloadN (pc' := 31) hx (hd 16) 2 rfl rfl ?_
  refine r_jn1 65 (fun v7 => [(0, .ref t), (4, va_rf r1), (5, .int v3), (6, .int r4)]) (fun v7 => [.int v7]) (fun v7 => M6) (fun v7 => ?_) (fun j8 hj9 => ?_)
  · skip
    refine r_istore (pc' := 67) (L' := [(7, .int v7), (0, .ref t), (4, va_rf r1), (5, .int v3), (6, .int r4)]) hx (hd 32) (by decide) rfl rfl ?_
    refine r_aload_n (pc' := 68) hx (hd 33) rfl 1 rfl rfl ?_
    refine r_get (pc' := 71) (v := .int (mI M6 t 5)) hx (hd 34) fl_10_62 ht rfl (by decide) rfl ?_
    refine r_jn0 89 ([(0, .ref t), (4, va_rf r1), (5, .int v3), (6, .int r4)]) ([]) (M6) (?_) (fun j10 hj11 => ?_)
    · skip
      refine r_aload_n (pc' := 90) hx (hd 43) rfl 0 rfl rfl ?_
      refine r_iconst (pc' := 91) (v := 1) hx (hd 44) (by decide) rfl ?_
      refine r_putZ (pc' := 94) hx (hd 45) fp_10_62 ht rfl (by decide) rfl rfl (fun M12 => ?_)
      refine r_aload_n (pc' := 95) hx (hd 46) rfl 0 rfl rfl ?_
      refine r_aloadN (pc' := 97) hx (hd 47) 1 rfl rfl ?_
      refine r_putR (pc' := 100) (v := r1) hx (hd 48) fp_10_65 ht rfl (by decide) (fun kd b hm hb => by cases hm; exact (wX6_lawAt hL p1 hp1 p2 wt2 hgr1) b hb) rfl (fun M13 => ?_)
      refine r_aload_n (pc' := 101) hx (hd 49) rfl 0 rfl rfl ?_
      refine r_iload (pc' := 103) hx (hd 50) 2 rfl rfl ?_
      refine r_putI (pc' := 106) hx (hd 51) fp_10_56 ht rfl (by decide) rfl (fun M14 => ?_)
      refine r_aload_n (pc' := 107) hx (hd 52) rfl 0 rfl rfl ?_
      refine r_iload (pc' := 109) hx (hd 53) 3 rfl rfl ?_
      refine r_putI (pc' := 112) hx (hd 54) fp_10_59 ht rfl (by decide) rfl (fun M15 => ?_)
      refine r_aload_n (pc' := 113) hx (hd 55) rfl 0 rfl rfl ?_
      refine r_callVU (pc' := 116) (As := []) (rest := []) hx (hd 56) md_X10_setStandard mi_X10_setStandard ms_X10_setStandard ml_10_69 (cX10_setStandard (xl x) w hL t ht M15) ht rfl (by decide) ⟨Nat.le_of_ble_eq_true rfl, Nat.le_of_ble_eq_true rfl⟩ rfl rfl (Nat.le_of_ble_eq_true rfl) rfl (fun M16 => ?_)
      refine r_aload_n (pc' := 117) hx (hd 57) rfl 0 rfl rfl ?_
      refine r_get (pc' := 120) (v := .ref (t + 1)) hx (hd 58) fl_10_12 ht rfl (by decide) rfl ?_
      have h17 := hL.1 _ _ _ ht 0 1 7 0 rfl
      refine r_iconst (pc' := 121) (v := 0) hx (hd 59) (by decide) rfl ?_
      refine r_aload_n (pc' := 122) hx (hd 60) rfl 0 rfl rfl ?_
      refine r_get (pc' := 125) (v := .int (mI M16 t 7)) hx (hd 61) fl_10_56 ht rfl (by decide) rfl ?_
      refine r_callVU (pc' := 128) (As := [.int 0, .int (mI M16 t 7)]) (rest := []) hx (hd 62) md_X7_tell mi_X7_tell ms_X7_tell ml_10_72 (cX7_tell (xl x) w hL (t + 1) h17 0 (mI M16 t 7) M16) h17 rfl (by decide) ⟨Nat.le_of_ble_eq_true rfl, Nat.le_of_ble_eq_true rfl⟩ rfl rfl (Nat.le_of_ble_eq_true rfl) rfl (fun M18 => ?_)
      refine r_aload_n (pc' := 129) hx (hd 63) rfl 0 rfl rfl ?_
      refine r_get (pc' := 132) (v := .ref (t + 1)) hx (hd 64) fl_10_12 ht rfl (by decide) rfl ?_
      have h19 := hL.1 _ _ _ ht 0 1 7 0 rfl
      refine r_iconst (pc' := 133) (v := 5) hx (hd 65) (by decide) rfl ?_
      refine r_aload_n (pc' := 134) hx (hd 66) rfl 0 rfl rfl ?_
      refine r_get (pc' := 137) (v := .int (mI M18 t 8)) hx (hd 67) fl_10_59 ht rfl (by decide) rfl ?_
      refine r_callVU (pc' := 140) (As := [.int 5, .int (mI M18 t 8)]) (rest := []) hx (hd 68) md_X7_tell mi_X7_tell ms_X7_tell ml_10_72 (cX7_tell (xl x) w hL (t + 1) h19 5 (mI M18 t 8) M18) h19 rfl (by decide) ⟨Nat.le_of_ble_eq_true rfl, Nat.le_of_ble_eq_true rfl⟩ rfl rfl (Nat.le_of_ble_eq_true rfl) rfl (fun M20 => ?_)
      refine r_iconst (pc' := 141) (v := 0) hx (hd 69) (by decide) rfl ?_
      refine r_istore (pc' := 143) (L' := [(8, .int 0), (0, .ref t), (4, va_rf r1), (5, .int v3), (6, .int r4)]) hx (hd 70) (by decide) rfl rfl ?_
      refine r_sub [1, 2, 0] rfl ?_
      refine r_wl2 (fun v21 M22 => [(0, .ref t), (4, va_rf r1), (8, .int v21)]) (fun v21 M22 => []) (fun v21 M22 => M22) (fun v21 M22 rec23 ih24 => ?_) fuel 0 M20
      refine r_aloadN (pc' := 145) hx (hd 71) 1 rfl rfl ?_
      refine r_jn0 209 ([]) ([]) (M22) (?_) (fun j25 hj26 => ?_)
      · skip
        exact r_vret hx (hd 100) rfl rfl hz
      refine r_ifnull (tgt := 209) (pc' := 148) hx (hd 72) (by decide) (fun _ => ?_) rfl (fun _ _ => ?_)
      · skip
        refine r_sub [] rfl ?_
        exact hj26
      · skip
        refine r_iload (pc' := 150) hx (hd 73) 2 rfl rfl ?_
        refine r_aloadN (pc' := 152) hx (hd 74) 1 rfl rfl ?_
        refine r_bd (fun b28 e29 => ?_)
        have h30 := (wX6_lawAt hL p1 hp1 p2 wt2 hgr1) b28 e29
        subst e29
        refine r_get (pc' := 155) (v := .int (mI M22 b28 3)) hx (hd 75) fl_10_76 h30 rfl (by decide) rfl ?_
        refine r_icmp_ge (tgt := 209) (pc' := 158) hx (hd 76) (by decide) (fun _ => ?_) rfl (fun _ => ?_)
        · skip
          refine r_sub [] rfl ?_
          exact hj26
        · skip
          refine r_aload (pc' := 160) hx (hd 77) 1 rfl rfl ?_
          refine r_iload (pc' := 162) hx (hd 78) 2 rfl rfl ?_
          refine r_iconst (pc' := 163) (v := 0) hx (hd 79) (by decide) rfl ?_
          refine r_callV (pc' := 166) (As := [.int v21, .int 0]) (rest := []) hx (hd 80) md_X9_at mi_X9_at ms_X9_at ml_10_79 (cX9_at (xl x) w hL b28 h30 v21 0 M22) h30 rfl (by decide) ⟨Nat.le_of_ble_eq_true rfl, Nat.le_of_ble_eq_true rfl⟩ rfl rfl (Nat.le_of_ble_eq_true rfl) (fun r31 => .int r31 :: []) (fun _ => M22) (fun _ => ⟨rfl, rfl⟩) rfl (fun r31 _ => ?_)
          refine r_istore (pc' := 168) (L' := [(9, .int r31), (0, .ref t), (4, .ref b28), (8, .int v21)]) hx (hd 81) (by decide) rfl rfl ?_
          refine r_iload (pc' := 170) hx (hd 82) 0 rfl rfl ?_
          refine r_jn1 203 (fun M32 => [(0, .ref t), (4, .ref b28), (8, .int v21)]) (fun M32 => []) (fun M32 => M32) (fun M32 => ?_) (fun j33 hj34 => ?_)
          · skip
            refine r_iinc (pc' := 206) (v := 1) hx (hd 98) 2 rfl (by decide) (by decide) (fun v35 => [(8, .int v35), (0, .ref t), (4, .ref b28)]) (fun _ => rfl) rfl (fun v35 => ?_)
            refine r_goto (tgt := 143) hx (hd 99) (by decide) ?_
            refine r_sub [1, 2, 0] rfl ?_
            exact ih24 v35 M32
          refine r_jn0 180 ([(0, .ref t), (4, .ref b28), (8, .int v21), (9, .int r31)]) ([]) (M22) (?_) (fun j36 hj37 => ?_)
          · skip
            refine r_aload_n (pc' := 181) hx (hd 87) rfl 0 rfl rfl ?_
            refine r_aload (pc' := 183) hx (hd 88) 1 rfl rfl ?_
            refine r_iload (pc' := 185) hx (hd 89) 2 rfl rfl ?_
            refine r_iload (pc' := 187) hx (hd 90) 3 rfl rfl ?_
            refine r_callVU (pc' := 190) (As := [.ref b28, .int v21, .int r31]) (rest := []) hx (hd 91) md_X10_askOfCards mi_X10_askOfCards ms_X10_askOfCards ml_10_83 (cX10_askOfCards (xl x) w hL t ht b28 h30 v21 r31 M22) ht rfl (by decide) ⟨Nat.le_of_ble_eq_true rfl, Nat.le_of_ble_eq_true rfl⟩ rfl rfl (Nat.le_of_ble_eq_true rfl) rfl (fun M38 => ?_)
            refine r_goto (tgt := 203) hx (hd 92) (by decide) ?_
            refine r_sub [0, 1, 2] rfl ?_
            exact hj34 M38
          refine r_if_eq (tgt := 180) (pc' := 173) hx (hd 83) (by decide) (fun _ => ?_) rfl (fun _ => ?_)
          · skip
            refine r_sub [1, 2, 3, 0] rfl ?_
            exact hj37
          · skip
            refine r_iload (pc' := 175) hx (hd 84) 0 rfl rfl ?_
            refine r_bipush (pc' := 177) (v := 6) hx (hd 85) (by decide) rfl ?_
            refine r_icmp_ne (tgt := 193) (pc' := 180) hx (hd 86) (by decide) (fun _ => ?_) rfl (fun _ => ?_)
            · skip
              refine r_aload_n (pc' := 194) hx (hd 93) rfl 1 rfl rfl ?_
              refine r_aload (pc' := 196) hx (hd 94) 2 rfl rfl ?_
              refine r_iload (pc' := 198) hx (hd 95) 3 rfl rfl ?_
              refine r_iload (pc' := 200) hx (hd 96) 0 rfl rfl ?_
              refine r_callVU (pc' := 203) (As := [.ref b28, .int v21, .int r31]) (rest := []) hx (hd 97) md_X10_askOfCounts mi_X10_askOfCounts ms_X10_askOfCounts ml_10_87 (cX10_askOfCounts (xl x) w hL t ht b28 h30 v21 r31 M22) ht rfl (by decide) ⟨Nat.le_of_ble_eq_true rfl, Nat.le_of_ble_eq_true rfl⟩ rfl rfl (Nat.le_of_ble_eq_true rfl) rfl (fun M39 => ?_)
              refine r_sub [1, 2, 3] rfl ?_
              exact hj34 M39
            · skip
              refine r_sub [1, 2, 3, 0] rfl ?_
              exact hj37
    refine r_if_eq (tgt := 89) (pc' := 74) hx (hd 35) (by decide) (fun _ => ?_) rfl (fun _ => ?_)
    · skip
      refine r_sub [1, 2, 3, 4] rfl ?_
      exact hj11
    · skip
      refine r_aload_n (pc' := 75) hx (hd 36) rfl 1 rfl rfl ?_
      refine r_get (pc' := 78) (v := va_rf (mR M6 t 6)) hx (hd 37) fl_10_65 ht rfl (by decide) rfl ?_
      refine r_wt (fun wt42 => ?_)
      refine r_nmR (fun v40 hn41 => ?_)
      refine r_aloadN (pc' := 80) hx (hd 38) 2 rfl rfl ?_
      refine r_acmp_ne (tgt := 89) (pc' := 83) hx (hd 39) (by decide) (fun _ => ?_) rfl (fun _ => ?_)
      · skip
        refine r_sub [1, 2, 3, 4] rfl ?_
        exact hj11
      · skip
        refine r_iload (pc' := 85) hx (hd 40) 0 rfl rfl ?_
        refine r_if_eq (tgt := 89) (pc' := 88) hx (hd 41) (by decide) (fun _ => ?_) rfl (fun _ => ?_)
        · skip
          refine r_sub [1, 2, 3, 4] rfl ?_
          exact hj11
        · skip
          exact r_vret hx (hd 42) rfl rfl hz
  refine r_jn0 60 ([(0, .ref t), (4, va_rf r1), (5, .int v3), (6, .int r4)]) ([]) (M6) (?_) (fun j43 hj44 => ?_)
  · skip
    refine r_iconst (pc' := 61) (v := 1) hx (hd 29) (by decide) rfl ?_
    refine r_goto (tgt := 65) hx (hd 30) (by decide) ?_
    exact hj9 1
  refine r_ifnull (tgt := 60) (pc' := 34) hx (hd 17) (by decide) (fun _ => ?_) rfl (fun _ _ => ?_)
  · skip
    refine r_sub [3, 2, 1, 0] rfl ?_
    exact hj44
  · skip
    refine r_aloadN (pc' := 36) hx (hd 18) 2 rfl rfl ?_
    refine r_bd (fun b46 e47 => ?_)
    have h48 := (wX6_lawAt hL p1 hp1 p2 wt2 hgr1) b46 e47
    subst e47
    refine r_get (pc' := 39) (v := .int (mI M6 b46 4)) hx (hd 19) fl_10_50 h48 rfl (by decide) rfl ?_
    refine r_if_eq (tgt := 60) (pc' := 42) hx (hd 20) (by decide) (fun _ => ?_) rfl (fun _ => ?_)
    · skip
      refine r_sub [3, 2, 1, 0] rfl ?_
      exact hj44
    · skip
      refine r_aload_n (pc' := 43) hx (hd 21) rfl 3 rfl rfl ?_
      refine r_get (pc' := 46) (v := .int (mI M6 t 7)) hx (hd 22) fl_10_56 ht rfl (by decide) rfl ?_
      refine r_iload (pc' := 48) hx (hd 23) 1 rfl rfl ?_
      refine r_jn0 64 ([(0, .ref t), (4, .ref b46), (5, .int v3), (6, .int r4)]) ([]) (M6) (?_) (fun j49 hj50 => ?_)
      · skip
        refine r_iconst (pc' := 65) (v := 0) hx (hd 31) (by decide) rfl ?_
        exact hj9 0
      refine r_icmp_ne (tgt := 64) (pc' := 51) hx (hd 24) (by decide) (fun _ => ?_) rfl (fun _ => ?_)
      · skip
        refine r_sub [3, 2, 1, 0] rfl ?_
        exact hj50
      · skip
        refine r_aload_n (pc' := 52) hx (hd 25) rfl 3 rfl rfl ?_
        refine r_get (pc' := 55) (v := .int (mI M6 t 8)) hx (hd 26) fl_10_59 ht rfl (by decide) rfl ?_
        refine r_iload (pc' := 57) hx (hd 27) 0 rfl rfl ?_
        refine r_icmp_ne (tgt := 64) (pc' := 60) hx (hd 28) (by decide) (fun _ => ?_) rfl (fun _ => ?_)
        · skip
          refine r_sub [3, 2, 1, 0] rfl ?_
          exact hj50
        · skip
          refine r_sub [3, 2, 1, 0] rfl ?_
          exact hj44
abbrev yX10_valueOf : MethodName := ({ cls := "CribbageRoom$Worth", name := "valueOf", desc := "(I)I" } : Jvm.MethodName)
def tbX10_valueOf : List (Nat × Instr × Nat) := [(0, .iload_n 1, 1), (1, .invokestatic 27, 3), (4, .ifCond .eq 12, 3), (7, .aload_n 0, 1), (8, .getfield 18, 3), (11, .iload_n 1, 1), (12, .iaload, 1), (13, .goto 4, 3), (16, .iconst 1, 1), (17, .ireturn, 1)]
theorem dX10_valueOf : ∀ q ∈ tbX10_valueOf, decode prog_12_method_2_code q.1 = .ok q.2 := by decide +kernel
set_option maxRecDepth 20000 in
theorem cX10_valueOf (l : Launch) (w : WX) (hL : Lay w) (t : Nat) (ht : Wat w t 10 0) (p1 : Int32) (M : Mem) : Ct l w yX10_valueOf prog_12_method_2_code 2 (Option.some FieldType.int) 1 20 evI (emC M) [.ref t, .int p1] M (FX10_valueOf t p1 M) := by
  refine ct_of (by decide) (Nat.le_of_ble_eq_true rfl) (fun x hl hx hb hz => ?_)
  subst hl
  have hd : ∀ i, DAt (xc x).code (tbX10_valueOf[i]?) := fun i => by rw [hb]; exact dat_of dX10_valueOf i
  show C x w (Qn x w evI (emC M)) 2 0 [(0, .ref t), (1, .int p1)] [] M (FX10_valueOf t p1 M)
  unfold FX10_valueOf
  refine r_iload_n (pc' := 1) hx (hd 0) rfl 1 rfl rfl ?_
  refine r_callSN (pc' := 4) (As := [.int p1]) (rest := []) hx (hd 1) md_X11_isCard mst_X11_isCard ml_10_27 (cX11_isCard (xl x) w hL p1 M) ⟨Nat.le_of_ble_eq_true rfl, Nat.le_of_ble_eq_true rfl⟩ rfl rfl (Nat.le_of_ble_eq_true rfl) (fun r1 => .int r1 :: []) (fun _ => M) (fun _ => ⟨rfl, rfl⟩) rfl (fun r1 _ => ?_)
  refine r_jn1 17 (fun v2 => []) (fun v2 => [.int v2]) (fun v2 => M) (fun v2 => ?_) (fun j3 hj4 => ?_)
  · skip
    exact r_iret hx (hd 9) rfl rfl hz
  refine r_if_eq (tgt := 16) (pc' := 7) hx (hd 2) (by decide) (fun _ => ?_) rfl (fun _ => ?_)
  · skip
    refine r_iconst (pc' := 17) (v := 1) hx (hd 8) (by decide) rfl ?_
    refine r_sub [] rfl ?_
    exact hj4 1
  · skip
    refine r_aload_n (pc' := 8) hx (hd 3) rfl 0 rfl rfl ?_
    refine r_get (pc' := 11) (v := .ref (t + 4)) hx (hd 4) fl_10_18 ht rfl (by decide) rfl ?_
    have h5 := hL.1 _ _ _ ht 1 4 20 52 rfl
    refine r_iload_n (pc' := 12) hx (hd 5) rfl 1 rfl rfl ?_
    refine r_gd (fun h6 => ?_)
    refine r_iald (pc' := 13) (k := ix p1) hx (hd 6) h5 h6 rfl rfl ?_
    refine r_goto (tgt := 17) hx (hd 7) (by decide) ?_
    refine r_sub [] rfl ?_
    exact hj4 (mI M (t + 4) (ix p1))
abbrev yX11_has : MethodName := ({ cls := "CribbageRoom", name := "has", desc := "(JI)Z" } : Jvm.MethodName)
def tbX11_has : List (Nat × Instr × Nat) := [(0, .iload_n 2, 1), (1, .invokestatic 106, 3), (4, .ifCond .eq 17, 3), (7, .lload_n 0, 1), (8, .iload_n 2, 1), (9, .lshr, 1), (10, .lconst 1, 1), (11, .land, 1), (12, .lconst 1, 1), (13, .lcmp, 1), (14, .ifCond .ne 7, 3), (17, .iconst 1, 1), (18, .goto 4, 3), (21, .iconst 0, 1), (22, .ireturn, 1)]
theorem dX11_has : ∀ q ∈ tbX11_has, decode prog_1_method_57_code q.1 = .ok q.2 := by decide +kernel
set_option maxRecDepth 20000 in
theorem cX11_has (l : Launch) (w : WX) (hL : Lay w) (p0 : Int64) (p2 : Int32) (M : Mem) : Ct l w yX11_has prog_1_method_57_code 3 (Option.some FieldType.boolean) 1 20 evI (emC M) [.long p0, .int p2] M (FX11_has p0 p2) := by
  refine ct_of (by decide) (Nat.le_of_ble_eq_true rfl) (fun x hl hx hb hz => ?_)
  subst hl
  have hd : ∀ i, DAt (xc x).code (tbX11_has[i]?) := fun i => by rw [hb]; exact dat_of dX11_has i
  show C x w (Qn x w evI (emC M)) 3 0 [(0, .long p0), (2, .int p2)] [] M (FX11_has p0 p2)
  unfold FX11_has
  refine r_iload_n (pc' := 1) hx (hd 0) rfl 1 rfl rfl ?_
  refine r_callS (pc' := 4) (As := [.int p2]) (rest := []) hx (hd 1) md_X11_isCard mst_X11_isCard ml_11_106 (cX11_isCard (xl x) w hL p2 M) ⟨Nat.le_of_ble_eq_true rfl, Nat.le_of_ble_eq_true rfl⟩ rfl rfl (Nat.le_of_ble_eq_true rfl) (fun r1 => .int r1 :: []) (fun _ => M) (fun _ => ⟨rfl, rfl⟩) rfl (fun r1 _ => ?_)
  refine r_jn1 22 (fun v2 => []) (fun v2 => [.int v2]) (fun v2 => M) (fun v2 => ?_) (fun j3 hj4 => ?_)
  · skip
    refine r_gd (fun h5 => ?_)
    exact r_zret hx (hd 14) h5 rfl rfl hz
  refine r_jn0 21 ([]) ([]) (M) (?_) (fun j6 hj7 => ?_)
  · skip
    refine r_iconst (pc' := 22) (v := 0) hx (hd 13) (by decide) rfl ?_
    exact hj4 0
  refine r_if_eq (tgt := 21) (pc' := 7) hx (hd 2) (by decide) (fun _ => ?_) rfl (fun _ => ?_)
  · skip
    refine r_sub [] rfl ?_
    exact hj7
  · skip
    refine r_lload_n (pc' := 8) hx (hd 3) rfl 0 rfl rfl ?_
    refine r_iload_n (pc' := 9) hx (hd 4) rfl 1 rfl rfl ?_
    refine r_lshr (pc' := 10) hx (hd 5) rfl ?_
    refine r_lconst (pc' := 11) (v := 1) hx (hd 6) (by decide) rfl ?_
    refine r_land (pc' := 12) hx (hd 7) rfl ?_
    refine r_lconst (pc' := 13) (v := 1) hx (hd 8) (by decide) rfl ?_
    refine r_lcmp_ne (tgt := 21) (pc' := 17) hx (hd 9) (hd 10) (by decide) (fun _ => ?_) rfl (fun _ => ?_)
    · skip
      refine r_sub [] rfl ?_
      exact hj7
    · skip
      refine r_iconst (pc' := 18) (v := 1) hx (hd 11) (by decide) rfl ?_
      refine r_goto (tgt := 22) hx (hd 12) (by decide) ?_
      refine r_sub [] rfl ?_
      exact hj4 1
abbrev yX8_placeOf : MethodName := ({ cls := "CribbageRoom$Table", name := "placeOf", desc := "(I)I" } : Jvm.MethodName)
def tbX8_placeOf : List (Nat × Instr × Nat) := [(0, .aload_n 0, 1), (1, .getfield 9, 3), (4, .iconst 0, 1), (5, .laload, 1), (6, .iload_n 1, 1), (7, .invokestatic 64, 3), (10, .ifCond .eq 5, 3), (13, .iconst 0, 1), (14, .ireturn, 1), (15, .aload_n 0, 1), (16, .getfield 9, 3), (19, .iconst 1, 1), (20, .laload, 1), (21, .iload_n 1, 1), (22, .invokestatic 64, 3), (25, .ifCond .eq 5, 3), (28, .iconst 1, 1), (29, .ireturn, 1), (30, .aload_n 0, 1), (31, .getfield 44, 3), (34, .iload_n 1, 1), (35, .invokestatic 64, 3), (38, .ifCond .eq 5, 3), (41, .iconst 2, 1), (42, .ireturn, 1), (43, .iload_n 1, 1), (44, .aload_n 0, 1), (45, .getfield 29, 3), (48, .if_icmp .ne 7, 3), (51, .iconst 3, 1), (52, .goto 4, 3), (55, .iconst (-1), 1), (56, .ireturn, 1)]
theorem dX8_placeOf : ∀ q ∈ tbX8_placeOf, decode prog_10_method_4_code q.1 = .ok q.2 := by decide +kernel
set_option maxRecDepth 20000 in
theorem cX8_placeOf (l : Launch) (w : WX) (hL : Lay w) (t : Nat) (ht : Wat w t 8 0) (p1 : Int32) (M : Mem) : Ct l w yX8_placeOf prog_10_method_4_code 2 (Option.some FieldType.int) 2 42 evI (emC M) [.ref t, .int p1] M (FX8_placeOf t p1 M) := by
  refine ct_of (by decide) (Nat.le_of_ble_eq_true rfl) (fun x hl hx hb hz => ?_)
  subst hl
  have hd : ∀ i, DAt (xc x).code (tbX8_placeOf[i]?) := fun i => by rw [hb]; exact dat_of dX8_placeOf i
  show C x w (Qn x w evI (emC M)) 2 0 [(0, .ref t), (1, .int p1)] [] M (FX8_placeOf t p1 M)
  unfold FX8_placeOf
  refine r_aload_n (pc' := 1) hx (hd 0) rfl 0 rfl rfl ?_
  refine r_get (pc' := 4) (v := .ref (t + 1)) hx (hd 1) fl_8_9 ht rfl (by decide) rfl ?_
  have h1 := hL.1 _ _ _ ht 0 1 21 2 rfl
  refine r_iconst (pc' := 5) (v := 0) hx (hd 2) (by decide) rfl ?_
  refine r_lald (pc' := 6) (k := 0) hx (hd 3) h1 (by decide) (by decide) rfl ?_
  refine r_iload_n (pc' := 7) hx (hd 4) rfl 1 rfl rfl ?_
  refine r_callSN (pc' := 10) (As := [.long (mJ M (t + 1) 0), .int p1]) (rest := []) hx (hd 5) md_X11_has mst_X11_has ml_8_64 (cX11_has (xl x) w hL (mJ M (t + 1) 0) p1 M) ⟨Nat.le_of_ble_eq_true rfl, Nat.le_of_ble_eq_true rfl⟩ rfl rfl (Nat.le_of_ble_eq_true rfl) (fun r2 => .int r2 :: []) (fun _ => M) (fun _ => ⟨rfl, rfl⟩) rfl (fun r2 _ => ?_)
  refine r_if_eq (tgt := 15) (pc' := 13) hx (hd 6) (by decide) (fun _ => ?_) rfl (fun _ => ?_)
  · skip
    refine r_aload_n (pc' := 16) hx (hd 9) rfl 0 rfl rfl ?_
    refine r_get (pc' := 19) (v := .ref (t + 1)) hx (hd 10) fl_8_9 ht rfl (by decide) rfl ?_
    have h3 := hL.1 _ _ _ ht 0 1 21 2 rfl
    refine r_iconst (pc' := 20) (v := 1) hx (hd 11) (by decide) rfl ?_
    refine r_lald (pc' := 21) (k := 1) hx (hd 12) h3 (by decide) (by decide) rfl ?_
    refine r_iload_n (pc' := 22) hx (hd 13) rfl 1 rfl rfl ?_
    refine r_callSN (pc' := 25) (As := [.long (mJ M (t + 1) 1), .int p1]) (rest := []) hx (hd 14) md_X11_has mst_X11_has ml_8_64 (cX11_has (xl x) w hL (mJ M (t + 1) 1) p1 M) ⟨Nat.le_of_ble_eq_true rfl, Nat.le_of_ble_eq_true rfl⟩ rfl rfl (Nat.le_of_ble_eq_true rfl) (fun r4 => .int r4 :: []) (fun _ => M) (fun _ => ⟨rfl, rfl⟩) rfl (fun r4 _ => ?_)
    refine r_if_eq (tgt := 30) (pc' := 28) hx (hd 15) (by decide) (fun _ => ?_) rfl (fun _ => ?_)
    · skip
      refine r_aload_n (pc' := 31) hx (hd 18) rfl 0 rfl rfl ?_
      refine r_get (pc' := 34) (v := .long (mJ M t 3)) hx (hd 19) fl_8_44 ht rfl (by decide) rfl ?_
      refine r_iload_n (pc' := 35) hx (hd 20) rfl 1 rfl rfl ?_
      refine r_callSN (pc' := 38) (As := [.long (mJ M t 3), .int p1]) (rest := []) hx (hd 21) md_X11_has mst_X11_has ml_8_64 (cX11_has (xl x) w hL (mJ M t 3) p1 M) ⟨Nat.le_of_ble_eq_true rfl, Nat.le_of_ble_eq_true rfl⟩ rfl rfl (Nat.le_of_ble_eq_true rfl) (fun r5 => .int r5 :: []) (fun _ => M) (fun _ => ⟨rfl, rfl⟩) rfl (fun r5 _ => ?_)
      refine r_if_eq (tgt := 43) (pc' := 41) hx (hd 22) (by decide) (fun _ => ?_) rfl (fun _ => ?_)
      · skip
        refine r_iload_n (pc' := 44) hx (hd 25) rfl 1 rfl rfl ?_
        refine r_aload_n (pc' := 45) hx (hd 26) rfl 0 rfl rfl ?_
        refine r_get (pc' := 48) (v := .int (mI M t 7)) hx (hd 27) fl_8_29 ht rfl (by decide) rfl ?_
        refine r_jn1 56 (fun v6 => []) (fun v6 => [.int v6]) (fun v6 => M) (fun v6 => ?_) (fun j7 hj8 => ?_)
        · skip
          exact r_iret hx (hd 32) rfl rfl hz
        refine r_icmp_ne (tgt := 55) (pc' := 51) hx (hd 28) (by decide) (fun _ => ?_) rfl (fun _ => ?_)
        · skip
          refine r_iconst (pc' := 56) (v := (-1)) hx (hd 31) (by decide) rfl ?_
          refine r_sub [] rfl ?_
          exact hj8 (-1)
        · skip
          refine r_iconst (pc' := 52) (v := 3) hx (hd 29) (by decide) rfl ?_
          refine r_goto (tgt := 56) hx (hd 30) (by decide) ?_
          refine r_sub [] rfl ?_
          exact hj8 3
      · skip
        refine r_iconst (pc' := 42) (v := 2) hx (hd 23) (by decide) rfl ?_
        exact r_iret hx (hd 24) rfl rfl hz
    · skip
      refine r_iconst (pc' := 29) (v := 1) hx (hd 16) (by decide) rfl ?_
      exact r_iret hx (hd 17) rfl rfl hz
  · skip
    refine r_iconst (pc' := 14) (v := 0) hx (hd 7) (by decide) rfl ?_
    exact r_iret hx (hd 8) rfl rfl hz
abbrev yX11_card : MethodName := ({ cls := "CribbageRoom", name := "card", desc := "(II)I" } : Jvm.MethodName)
def tbX11_card : List (Nat × Instr × Nat) := [(0, .iload_n 1, 1), (1, .invokestatic 106, 3), (4, .ifCond .ne 5, 3), (7, .iconst (-1), 1), (8, .ireturn, 1), (9, .iload_n 2, 1), (10, .tableswitch 168 0 4 #[34, 68, 113, 125, 148], 34), (44, .aload_n 0, 1), (45, .getfield 57, 3), (48, .aload_n 0, 1), (49, .getfield 12, 3), (52, .aload_n 0, 1), (53, .getfield 12, 3), (56, .getfield 110, 3), (59, .aload_n 0, 1), (60, .getfield 12, 3), (63, .getfield 113, 3), (66, .invokevirtual 116, 3), (69, .aload_n 0, 1), (70, .getfield 57, 3), (73, .iload_n 1, 1), (74, .invokevirtual 120, 3), (77, .ireturn, 1), (78, .aload_n 0, 1), (79, .getfield 57, 3), (82, .aload_n 0, 1), (83, .getfield 12, 3), (86, .aload_n 0, 1), (87, .getfield 12, 3), (90, .getfield 110, 3), (93, .aload_n 0, 1), (94, .getfield 12, 3), (97, .getfield 113, 3), (100, .invokevirtual 116, 3), (103, .aload_n 0, 1), (104, .getfield 57, 3), (107, .getfield 124, 3), (110, .iload_n 1, 1), (111, .invokestatic 128, 3), (114, .ifCond .eq 7, 3), (117, .iconst 1, 1), (118, .goto 4, 3), (121, .iconst 0, 1), (122, .ireturn, 1), (123, .aload_n 0, 1), (124, .getfield 12, 3), (127, .getfield 113, 3), (130, .iload_n 1, 1), (131, .invokevirtual 132, 3), (134, .ireturn, 1), (135, .aload_n 0, 1), (136, .getfield 12, 3), (139, .getfield 113, 3), (142, .getfield 135, 3), (145, .iload_n 1, 1), (146, .invokestatic 128, 3), (149, .ifCond .eq 7, 3), (152, .iconst 1, 1), (153, .goto 4, 3), (156, .iconst 0, 1), (157, .ireturn, 1), (158, .aload_n 0, 1), (159, .getfield 12, 3), (162, .getfield 138, 3), (165, .iload_n 1, 1), (166, .invokestatic 128, 3), (169, .ifCond .eq 7, 3), (172, .iconst 1, 1), (173, .goto 4, 3), (176, .iconst 0, 1), (177, .ireturn, 1), (178, .iconst (-1), 1), (179, .ireturn, 1)]
theorem dX11_card : ∀ q ∈ tbX11_card, decode prog_1_method_2_code q.1 = .ok q.2 := by decide +kernel
set_option maxRecDepth 20000 in
theorem cX11_card (l : Launch) (w : WX) (hL : Lay w) (t : Nat) (ht : Wat w t 11 0) (p1 : Int32) (p2 : Int32) (M : Mem) : Ct l w yX11_card prog_1_method_2_code 3 (Option.some FieldType.int) 6 156 evIM emM [.ref t, .int p1, .int p2] M (FX11_card t p1 p2 M) := by
  refine ct_of (by decide) (Nat.le_of_ble_eq_true rfl) (fun x hl hx hb hz => ?_)
  subst hl
  have hd : ∀ i, DAt (xc x).code (tbX11_card[i]?) := fun i => by rw [hb]; exact dat_of dX11_card i
  show C x w (Qn x w evIM emM) 3 0 [(0, .ref t), (1, .int p1), (2, .int p2)] [] M (FX11_card t p1 p2 M)
  unfold FX11_card
  refine r_iload_n (pc' := 1) hx (hd 0) rfl 1 rfl rfl ?_
  refine r_callS (pc' := 4) (As := [.int p1]) (rest := []) hx (hd 1) md_X11_isCard mst_X11_isCard ml_11_106 (cX11_isCard (xl x) w hL p1 M) ⟨Nat.le_of_ble_eq_true rfl, Nat.le_of_ble_eq_true rfl⟩ rfl rfl (Nat.le_of_ble_eq_true rfl) (fun r1 => .int r1 :: []) (fun _ => M) (fun _ => ⟨rfl, rfl⟩) rfl (fun r1 _ => ?_)
  refine r_if_ne (tgt := 9) (pc' := 7) hx (hd 2) (by decide) (fun _ => ?_) rfl (fun _ => ?_)
  · skip
    refine r_iload_n (pc' := 10) hx (hd 5) rfl 2 rfl rfl ?_
    refine r_table (td := 178) [44, 78, 123, 135, 158] hx (hd 6) rfl rfl rfl (by decide) ?_ ?_
    · skip
      refine r_iconst (pc' := 179) (v := (-1)) hx (hd 71) (by decide) rfl ?_
      exact r_iret hx (hd 72) rfl rfl hz
    refine ⟨?_, ?_, ?_, ?_, ?_,  trivial⟩
    · skip
      refine r_aload_n (pc' := 45) hx (hd 7) rfl 0 rfl rfl ?_
      refine r_get (pc' := 48) (v := .ref (t + 179)) hx (hd 8) fl_11_57 ht rfl (by decide) rfl ?_
      have h2 := hL.1 _ _ _ ht 8 179 10 0 rfl
      refine r_aload_n (pc' := 49) hx (hd 9) rfl 0 rfl rfl ?_
      refine r_get (pc' := 52) (v := .ref (t + 1)) hx (hd 10) fl_11_12 ht rfl (by decide) rfl ?_
      have h3 := hL.1 _ _ _ ht 0 1 6 0 rfl
      refine r_aload_n (pc' := 53) hx (hd 11) rfl 0 rfl rfl ?_
      refine r_get (pc' := 56) (v := .ref (t + 1)) hx (hd 12) fl_11_12 ht rfl (by decide) rfl ?_
      have h4 := hL.1 _ _ _ ht 0 1 6 0 rfl
      refine r_get (pc' := 59) (v := .int (mI M (t + 1) 8)) hx (hd 13) fl_11_110 h4 rfl (by decide) rfl ?_
      refine r_aload_n (pc' := 60) hx (hd 14) rfl 0 rfl rfl ?_
      refine r_get (pc' := 63) (v := .ref (t + 1)) hx (hd 15) fl_11_12 ht rfl (by decide) rfl ?_
      have h5 := hL.1 _ _ _ ht 0 1 6 0 rfl
      refine r_get (pc' := 66) (v := .ref ((t + 1) + 1)) hx (hd 16) fl_11_113 h5 rfl (by decide) rfl ?_
      have h6 := hL.1 _ _ _ h5 0 1 8 0 rfl
      refine r_callVU (pc' := 69) (As := [.ref (t + 1), .int (mI M (t + 1) 8), .ref ((t + 1) + 1)]) (rest := []) hx (hd 17) md_X10_fit mi_X10_fit ms_X10_fit ml_11_116 (cX10_fit (xl x) w hL (t + 179) h2 (t + 1) h3 (mI M (t + 1) 8) ((t + 1) + 1) h6 M) h2 rfl (by decide) ⟨Nat.le_of_ble_eq_true rfl, Nat.le_of_ble_eq_true rfl⟩ rfl rfl (Nat.le_of_ble_eq_true rfl) rfl (fun M7 => ?_)
      refine r_aload_n (pc' := 70) hx (hd 18) rfl 0 rfl rfl ?_
      refine r_get (pc' := 73) (v := .ref (t + 179)) hx (hd 19) fl_11_57 ht rfl (by decide) rfl ?_
      have h8 := hL.1 _ _ _ ht 8 179 10 0 rfl
      refine r_iload_n (pc' := 74) hx (hd 20) rfl 1 rfl rfl ?_
      refine r_callV (pc' := 77) (As := [.int p1]) (rest := []) hx (hd 21) md_X10_valueOf mi_X10_valueOf ms_X10_valueOf ml_11_120 (cX10_valueOf (xl x) w hL (t + 179) h8 p1 M7) h8 rfl (by decide) ⟨Nat.le_of_ble_eq_true rfl, Nat.le_of_ble_eq_true rfl⟩ rfl rfl (Nat.le_of_ble_eq_true rfl) (fun r9 => .int r9 :: []) (fun _ => M7) (fun _ => ⟨rfl, rfl⟩) rfl (fun r9 _ => ?_)
      exact r_iret hx (hd 22) rfl rfl hz
    · skip
      refine r_aload_n (pc' := 79) hx (hd 23) rfl 0 rfl rfl ?_
      refine r_get (pc' := 82) (v := .ref (t + 179)) hx (hd 24) fl_11_57 ht rfl (by decide) rfl ?_
      have h10 := hL.1 _ _ _ ht 8 179 10 0 rfl
      refine r_aload_n (pc' := 83) hx (hd 25) rfl 0 rfl rfl ?_
      refine r_get (pc' := 86) (v := .ref (t + 1)) hx (hd 26) fl_11_12 ht rfl (by decide) rfl ?_
      have h11 := hL.1 _ _ _ ht 0 1 6 0 rfl
      refine r_aload_n (pc' := 87) hx (hd 27) rfl 0 rfl rfl ?_
      refine r_get (pc' := 90) (v := .ref (t + 1)) hx (hd 28) fl_11_12 ht rfl (by decide) rfl ?_
      have h12 := hL.1 _ _ _ ht 0 1 6 0 rfl
      refine r_get (pc' := 93) (v := .int (mI M (t + 1) 8)) hx (hd 29) fl_11_110 h12 rfl (by decide) rfl ?_
      refine r_aload_n (pc' := 94) hx (hd 30) rfl 0 rfl rfl ?_
      refine r_get (pc' := 97) (v := .ref (t + 1)) hx (hd 31) fl_11_12 ht rfl (by decide) rfl ?_
      have h13 := hL.1 _ _ _ ht 0 1 6 0 rfl
      refine r_get (pc' := 100) (v := .ref ((t + 1) + 1)) hx (hd 32) fl_11_113 h13 rfl (by decide) rfl ?_
      have h14 := hL.1 _ _ _ h13 0 1 8 0 rfl
      refine r_callVU (pc' := 103) (As := [.ref (t + 1), .int (mI M (t + 1) 8), .ref ((t + 1) + 1)]) (rest := []) hx (hd 33) md_X10_fit mi_X10_fit ms_X10_fit ml_11_116 (cX10_fit (xl x) w hL (t + 179) h10 (t + 1) h11 (mI M (t + 1) 8) ((t + 1) + 1) h14 M) h10 rfl (by decide) ⟨Nat.le_of_ble_eq_true rfl, Nat.le_of_ble_eq_true rfl⟩ rfl rfl (Nat.le_of_ble_eq_true rfl) rfl (fun M15 => ?_)
      refine r_aload_n (pc' := 104) hx (hd 34) rfl 0 rfl rfl ?_
      refine r_get (pc' := 107) (v := .ref (t + 179)) hx (hd 35) fl_11_57 ht rfl (by decide) rfl ?_
      have h16 := hL.1 _ _ _ ht 8 179 10 0 rfl
      refine r_get (pc' := 110) (v := .long (mJ M15 (t + 179) 3)) hx (hd 36) fl_11_124 h16 rfl (by decide) rfl ?_
      refine r_iload_n (pc' := 111) hx (hd 37) rfl 1 rfl rfl ?_
      refine r_callS (pc' := 114) (As := [.long (mJ M15 (t + 179) 3), .int p1]) (rest := []) hx (hd 38) md_X11_has mst_X11_has ml_11_128 (cX11_has (xl x) w hL (mJ M15 (t + 179) 3) p1 M15) ⟨Nat.le_of_ble_eq_true rfl, Nat.le_of_ble_eq_true rfl⟩ rfl rfl (Nat.le_of_ble_eq_true rfl) (fun r17 => .int r17 :: []) (fun _ => M15) (fun _ => ⟨rfl, rfl⟩) rfl (fun r17 _ => ?_)
      refine r_jn1 122 (fun v18 => []) (fun v18 => [.int v18]) (fun v18 => M15) (fun v18 => ?_) (fun j19 hj20 => ?_)
      · skip
        exact r_iret hx (hd 43) rfl rfl hz
      refine r_if_eq (tgt := 121) (pc' := 117) hx (hd 39) (by decide) (fun _ => ?_) rfl (fun _ => ?_)
      · skip
        refine r_iconst (pc' := 122) (v := 0) hx (hd 42) (by decide) rfl ?_
        refine r_sub [] rfl ?_
        exact hj20 0
      · skip
        refine r_iconst (pc' := 118) (v := 1) hx (hd 40) (by decide) rfl ?_
        refine r_goto (tgt := 122) hx (hd 41) (by decide) ?_
        refine r_sub [] rfl ?_
        exact hj20 1
    · skip
      refine r_aload_n (pc' := 124) hx (hd 44) rfl 0 rfl rfl ?_
      refine r_get (pc' := 127) (v := .ref (t + 1)) hx (hd 45) fl_11_12 ht rfl (by decide) rfl ?_
      have h21 := hL.1 _ _ _ ht 0 1 6 0 rfl
      refine r_get (pc' := 130) (v := .ref ((t + 1) + 1)) hx (hd 46) fl_11_113 h21 rfl (by decide) rfl ?_
      have h22 := hL.1 _ _ _ h21 0 1 8 0 rfl
      refine r_iload_n (pc' := 131) hx (hd 47) rfl 1 rfl rfl ?_
      refine r_callV (pc' := 134) (As := [.int p1]) (rest := []) hx (hd 48) md_X8_placeOf mi_X8_placeOf ms_X8_placeOf ml_11_132 (cX8_placeOf (xl x) w hL ((t + 1) + 1) h22 p1 M) h22 rfl (by decide) ⟨Nat.le_of_ble_eq_true rfl, Nat.le_of_ble_eq_true rfl⟩ rfl rfl (Nat.le_of_ble_eq_true rfl) (fun r23 => .int r23 :: []) (fun _ => M) (fun _ => ⟨rfl, rfl⟩) rfl (fun r23 _ => ?_)
      exact r_iret hx (hd 49) rfl rfl hz
    · skip
      refine r_aload_n (pc' := 136) hx (hd 50) rfl 0 rfl rfl ?_
      refine r_get (pc' := 139) (v := .ref (t + 1)) hx (hd 51) fl_11_12 ht rfl (by decide) rfl ?_
      have h24 := hL.1 _ _ _ ht 0 1 6 0 rfl
      refine r_get (pc' := 142) (v := .ref ((t + 1) + 1)) hx (hd 52) fl_11_113 h24 rfl (by decide) rfl ?_
      have h25 := hL.1 _ _ _ h24 0 1 8 0 rfl
      refine r_get (pc' := 145) (v := .long (mJ M ((t + 1) + 1) 4)) hx (hd 53) fl_11_135 h25 rfl (by decide) rfl ?_
      refine r_iload_n (pc' := 146) hx (hd 54) rfl 1 rfl rfl ?_
      refine r_callS (pc' := 149) (As := [.long (mJ M ((t + 1) + 1) 4), .int p1]) (rest := []) hx (hd 55) md_X11_has mst_X11_has ml_11_128 (cX11_has (xl x) w hL (mJ M ((t + 1) + 1) 4) p1 M) ⟨Nat.le_of_ble_eq_true rfl, Nat.le_of_ble_eq_true rfl⟩ rfl rfl (Nat.le_of_ble_eq_true rfl) (fun r26 => .int r26 :: []) (fun _ => M) (fun _ => ⟨rfl, rfl⟩) rfl (fun r26 _ => ?_)
      refine r_jn1 157 (fun v27 => []) (fun v27 => [.int v27]) (fun v27 => M) (fun v27 => ?_) (fun j28 hj29 => ?_)
      · skip
        exact r_iret hx (hd 60) rfl rfl hz
      refine r_if_eq (tgt := 156) (pc' := 152) hx (hd 56) (by decide) (fun _ => ?_) rfl (fun _ => ?_)
      · skip
        refine r_iconst (pc' := 157) (v := 0) hx (hd 59) (by decide) rfl ?_
        refine r_sub [] rfl ?_
        exact hj29 0
      · skip
        refine r_iconst (pc' := 153) (v := 1) hx (hd 57) (by decide) rfl ?_
        refine r_goto (tgt := 157) hx (hd 58) (by decide) ?_
        refine r_sub [] rfl ?_
        exact hj29 1
    · skip
      refine r_aload_n (pc' := 159) hx (hd 61) rfl 0 rfl rfl ?_
      refine r_get (pc' := 162) (v := .ref (t + 1)) hx (hd 62) fl_11_12 ht rfl (by decide) rfl ?_
      have h30 := hL.1 _ _ _ ht 0 1 6 0 rfl
      refine r_get (pc' := 165) (v := .long (mJ M (t + 1) 5)) hx (hd 63) fl_11_138 h30 rfl (by decide) rfl ?_
      refine r_iload_n (pc' := 166) hx (hd 64) rfl 1 rfl rfl ?_
      refine r_callS (pc' := 169) (As := [.long (mJ M (t + 1) 5), .int p1]) (rest := []) hx (hd 65) md_X11_has mst_X11_has ml_11_128 (cX11_has (xl x) w hL (mJ M (t + 1) 5) p1 M) ⟨Nat.le_of_ble_eq_true rfl, Nat.le_of_ble_eq_true rfl⟩ rfl rfl (Nat.le_of_ble_eq_true rfl) (fun r31 => .int r31 :: []) (fun _ => M) (fun _ => ⟨rfl, rfl⟩) rfl (fun r31 _ => ?_)
      refine r_jn1 177 (fun v32 => []) (fun v32 => [.int v32]) (fun v32 => M) (fun v32 => ?_) (fun j33 hj34 => ?_)
      · skip
        exact r_iret hx (hd 70) rfl rfl hz
      refine r_if_eq (tgt := 176) (pc' := 172) hx (hd 66) (by decide) (fun _ => ?_) rfl (fun _ => ?_)
      · skip
        refine r_iconst (pc' := 177) (v := 0) hx (hd 69) (by decide) rfl ?_
        refine r_sub [] rfl ?_
        exact hj34 0
      · skip
        refine r_iconst (pc' := 173) (v := 1) hx (hd 67) (by decide) rfl ?_
        refine r_goto (tgt := 177) hx (hd 68) (by decide) ?_
        refine r_sub [] rfl ?_
        exact hj34 1
  · skip
    refine r_iconst (pc' := 8) (v := (-1)) hx (hd 3) (by decide) rfl ?_
    exact r_iret hx (hd 4) rfl rfl hz
abbrev yX11_isPlayer : MethodName := ({ cls := "CribbageRoom", name := "isPlayer", desc := "(I)Z" } : Jvm.MethodName)
def tbX11_isPlayer : List (Nat × Instr × Nat) := [(0, .iload_n 0, 1), (1, .ifCond .eq 8, 3), (4, .iload_n 0, 1), (5, .iconst 1, 1), (6, .if_icmp .ne 7, 3), (9, .iconst 1, 1), (10, .goto 4, 3), (13, .iconst 0, 1), (14, .ireturn, 1)]
theorem dX11_isPlayer : ∀ q ∈ tbX11_isPlayer, decode prog_1_method_55_code q.1 = .ok q.2 := by decide +kernel
set_option maxRecDepth 20000 in
theorem cX11_isPlayer (l : Launch) (w : WX) (hL : Lay w) (p0 : Int32) (M : Mem) : Ct l w yX11_isPlayer prog_1_method_55_code 1 (Option.some FieldType.boolean) 0 0 evI (emC M) [.int p0] M (FX11_isPlayer p0) := by
  refine ct_of (by decide) (Nat.le_of_ble_eq_true rfl) (fun x hl hx hb hz => ?_)
  subst hl
  have hd : ∀ i, DAt (xc x).code (tbX11_isPlayer[i]?) := fun i => by rw [hb]; exact dat_of dX11_isPlayer i
  show C x w (Qn x w evI (emC M)) 1 0 [(0, .int p0)] [] M (FX11_isPlayer p0)
  unfold FX11_isPlayer
  refine r_iload_n (pc' := 1) hx (hd 0) rfl 0 rfl rfl ?_
  refine r_jn1 14 (fun v1 => []) (fun v1 => [.int v1]) (fun v1 => M) (fun v1 => ?_) (fun j2 hj3 => ?_)
  · skip
    refine r_gd (fun h4 => ?_)
    exact r_zret hx (hd 8) h4 rfl rfl hz
  refine r_jn0 9 ([]) ([]) (M) (?_) (fun j5 hj6 => ?_)
  · skip
    refine r_iconst (pc' := 10) (v := 1) hx (hd 5) (by decide) rfl ?_
    refine r_goto (tgt := 14) hx (hd 6) (by decide) ?_
    exact hj3 1
  refine r_if_eq (tgt := 9) (pc' := 4) hx (hd 1) (by decide) (fun _ => ?_) rfl (fun _ => ?_)
  · skip
    refine r_sub [] rfl ?_
    exact hj6
  · skip
    refine r_iload_n (pc' := 5) hx (hd 2) rfl 0 rfl rfl ?_
    refine r_iconst (pc' := 6) (v := 1) hx (hd 3) (by decide) rfl ?_
    refine r_icmp_ne (tgt := 13) (pc' := 9) hx (hd 4) (by decide) (fun _ => ?_) rfl (fun _ => ?_)
    · skip
      refine r_iconst (pc' := 14) (v := 0) hx (hd 7) (by decide) rfl ?_
      refine r_sub [] rfl ?_
      exact hj3 0
    · skip
      refine r_sub [] rfl ?_
      exact hj6
abbrev yJ_Long_bitCount : MethodName := ({ cls := "java/lang/Long", name := "bitCount", desc := "(J)I" } : Jvm.MethodName)
def tbJ_Long_bitCount : List (Nat × Instr × Nat) := [(0, .lload_n 0, 1), (1, .lload_n 0, 1), (2, .iconst 1, 1), (3, .lushr, 1), (4, .ldc2_w 314, 3), (7, .land, 1), (8, .lsub, 1), (9, .lstore_n 0, 1), (10, .lload_n 0, 1), (11, .ldc2_w 316, 3), (14, .land, 1), (15, .lload_n 0, 1), (16, .iconst 2, 1), (17, .lushr, 1), (18, .ldc2_w 316, 3), (21, .land, 1), (22, .ladd, 1), (23, .lstore_n 0, 1), (24, .lload_n 0, 1), (25, .lload_n 0, 1), (26, .iconst 4, 1), (27, .lushr, 1), (28, .ladd, 1), (29, .ldc2_w 318, 3), (32, .land, 1), (33, .lstore_n 0, 1), (34, .lload_n 0, 1), (35, .lload_n 0, 1), (36, .bipush 8, 2), (38, .lushr, 1), (39, .ladd, 1), (40, .lstore_n 0, 1), (41, .lload_n 0, 1), (42, .lload_n 0, 1), (43, .bipush 16, 2), (45, .lushr, 1), (46, .ladd, 1), (47, .lstore_n 0, 1), (48, .lload_n 0, 1), (49, .lload_n 0, 1), (50, .bipush 32, 2), (52, .lushr, 1), (53, .ladd, 1), (54, .lstore_n 0, 1), (55, .lload_n 0, 1), (56, .l2i, 1), (57, .bipush 127, 2), (59, .iand, 1), (60, .ireturn, 1)]
theorem dJ_Long_bitCount : ∀ q ∈ tbJ_Long_bitCount, decode prog_17_method_50_code q.1 = .ok q.2 := by decide +kernel
set_option maxRecDepth 20000 in
theorem cJ_Long_bitCount (l : Launch) (w : WX) (hL : Lay w) (p0 : Int64) (M : Mem) : Ct l w yJ_Long_bitCount prog_17_method_50_code 2 (Option.some FieldType.int) 0 0 evI (emC M) [.long p0] M (FJ_Long_bitCount p0) := by
  refine ct_of (by decide) (Nat.le_of_ble_eq_true rfl) (fun x hl hx hb hz => ?_)
  subst hl
  have hd : ∀ i, DAt (xc x).code (tbJ_Long_bitCount[i]?) := fun i => by rw [hb]; exact dat_of dJ_Long_bitCount i
  show C x w (Qn x w evI (emC M)) 2 0 [(0, .long p0)] [] M (FJ_Long_bitCount p0)
  unfold FJ_Long_bitCount
  refine r_lload_n (pc' := 1) hx (hd 0) rfl 0 rfl rfl ?_
  refine r_lload_n (pc' := 2) hx (hd 1) rfl 0 rfl rfl ?_
  refine r_iconst (pc' := 3) (v := 1) hx (hd 2) (by decide) rfl ?_
  refine r_lushr (pc' := 4) hx (hd 3) rfl ?_
  refine r_ldc2 (pc' := 7) hx (hd 4) kc_Long_314 rfl ?_
  refine r_land (pc' := 8) hx (hd 5) rfl ?_
  refine r_lsub (pc' := 9) hx (hd 6) rfl ?_
  refine r_nmJ (fun v1 => ?_)
  refine r_lstore_n (pc' := 10) (L' := [(0, .long v1)]) hx (hd 7) rfl (by decide) rfl rfl ?_
  refine r_lload_n (pc' := 11) hx (hd 8) rfl 0 rfl rfl ?_
  refine r_ldc2 (pc' := 14) hx (hd 9) kc_Long_316 rfl ?_
  refine r_land (pc' := 15) hx (hd 10) rfl ?_
  refine r_lload_n (pc' := 16) hx (hd 11) rfl 0 rfl rfl ?_
  refine r_iconst (pc' := 17) (v := 2) hx (hd 12) (by decide) rfl ?_
  refine r_lushr (pc' := 18) hx (hd 13) rfl ?_
  refine r_ldc2 (pc' := 21) hx (hd 14) kc_Long_316 rfl ?_
  refine r_land (pc' := 22) hx (hd 15) rfl ?_
  refine r_ladd (pc' := 23) hx (hd 16) rfl ?_
  refine r_nmJ (fun v2 => ?_)
  refine r_lstore_n (pc' := 24) (L' := [(0, .long v2)]) hx (hd 17) rfl (by decide) rfl rfl ?_
  refine r_lload_n (pc' := 25) hx (hd 18) rfl 0 rfl rfl ?_
  refine r_lload_n (pc' := 26) hx (hd 19) rfl 0 rfl rfl ?_
  refine r_iconst (pc' := 27) (v := 4) hx (hd 20) (by decide) rfl ?_
  refine r_lushr (pc' := 28) hx (hd 21) rfl ?_
  refine r_ladd (pc' := 29) hx (hd 22) rfl ?_
  refine r_ldc2 (pc' := 32) hx (hd 23) kc_Long_318 rfl ?_
  refine r_land (pc' := 33) hx (hd 24) rfl ?_
  refine r_nmJ (fun v3 => ?_)
  refine r_lstore_n (pc' := 34) (L' := [(0, .long v3)]) hx (hd 25) rfl (by decide) rfl rfl ?_
  refine r_lload_n (pc' := 35) hx (hd 26) rfl 0 rfl rfl ?_
  refine r_lload_n (pc' := 36) hx (hd 27) rfl 0 rfl rfl ?_
  refine r_bipush (pc' := 38) (v := 8) hx (hd 28) (by decide) rfl ?_
  refine r_lushr (pc' := 39) hx (hd 29) rfl ?_
  refine r_ladd (pc' := 40) hx (hd 30) rfl ?_
  refine r_nmJ (fun v4 => ?_)
  refine r_lstore_n (pc' := 41) (L' := [(0, .long v4)]) hx (hd 31) rfl (by decide) rfl rfl ?_
  refine r_lload_n (pc' := 42) hx (hd 32) rfl 0 rfl rfl ?_
  refine r_lload_n (pc' := 43) hx (hd 33) rfl 0 rfl rfl ?_
  refine r_bipush (pc' := 45) (v := 16) hx (hd 34) (by decide) rfl ?_
  refine r_lushr (pc' := 46) hx (hd 35) rfl ?_
  refine r_ladd (pc' := 47) hx (hd 36) rfl ?_
  refine r_nmJ (fun v5 => ?_)
  refine r_lstore_n (pc' := 48) (L' := [(0, .long v5)]) hx (hd 37) rfl (by decide) rfl rfl ?_
  refine r_lload_n (pc' := 49) hx (hd 38) rfl 0 rfl rfl ?_
  refine r_lload_n (pc' := 50) hx (hd 39) rfl 0 rfl rfl ?_
  refine r_bipush (pc' := 52) (v := 32) hx (hd 40) (by decide) rfl ?_
  refine r_lushr (pc' := 53) hx (hd 41) rfl ?_
  refine r_ladd (pc' := 54) hx (hd 42) rfl ?_
  refine r_nmJ (fun v6 => ?_)
  refine r_lstore_n (pc' := 55) (L' := [(0, .long v6)]) hx (hd 43) rfl (by decide) rfl rfl ?_
  refine r_lload_n (pc' := 56) hx (hd 44) rfl 0 rfl rfl ?_
  refine r_l2i (pc' := 57) hx (hd 45) rfl ?_
  refine r_bipush (pc' := 59) (v := 127) hx (hd 46) (by decide) rfl ?_
  refine r_iand (pc' := 60) hx (hd 47) rfl ?_
  exact r_iret hx (hd 48) rfl rfl hz
abbrev yX11_lowest : MethodName := ({ cls := "CribbageRoom", name := "lowest", desc := "(J)I" } : Jvm.MethodName)
def tbX11_lowest : List (Nat × Instr × Nat) := [(0, .lload_n 0, 1), (1, .lconst 0, 1), (2, .lcmp, 1), (3, .ifCond .ne 7, 3), (6, .iconst (-1), 1), (7, .goto 12, 3), (10, .lload_n 0, 1), (11, .lload_n 0, 1), (12, .lneg, 1), (13, .land, 1), (14, .lconst 1, 1), (15, .lsub, 1), (16, .invokestatic 148, 3), (19, .ireturn, 1)]
theorem dX11_lowest : ∀ q ∈ tbX11_lowest, decode prog_1_method_58_code q.1 = .ok q.2 := by decide +kernel
set_option maxRecDepth 20000 in
theorem cX11_lowest (l : Launch) (w : WX) (hL : Lay w) (p0 : Int64) (M : Mem) : Ct l w yX11_lowest prog_1_method_58_code 2 (Option.some FieldType.int) 1 21 evI (emC M) [.long p0] M (FX11_lowest p0) := by
  refine ct_of (by decide) (Nat.le_of_ble_eq_true rfl) (fun x hl hx hb hz => ?_)
  subst hl
  have hd : ∀ i, DAt (xc x).code (tbX11_lowest[i]?) := fun i => by rw [hb]; exact dat_of dX11_lowest i
  show C x w (Qn x w evI (emC M)) 2 0 [(0, .long p0)] [] M (FX11_lowest p0)
  unfold FX11_lowest
  refine r_lload_n (pc' := 1) hx (hd 0) rfl 0 rfl rfl ?_
  refine r_lconst (pc' := 2) (v := 0) hx (hd 1) (by decide) rfl ?_
  refine r_jn1 19 (fun v1 => []) (fun v1 => [.int v1]) (fun v1 => M) (fun v1 => ?_) (fun j2 hj3 => ?_)
  · skip
    exact r_iret hx (hd 13) rfl rfl hz
  refine r_lcmp_ne (tgt := 10) (pc' := 6) hx (hd 2) (hd 3) (by decide) (fun _ => ?_) rfl (fun _ => ?_)
  · skip
    refine r_lload_n (pc' := 11) hx (hd 6) rfl 0 rfl rfl ?_
    refine r_lload_n (pc' := 12) hx (hd 7) rfl 0 rfl rfl ?_
    refine r_lneg (pc' := 13) hx (hd 8) rfl ?_
    refine r_land (pc' := 14) hx (hd 9) rfl ?_
    refine r_lconst (pc' := 15) (v := 1) hx (hd 10) (by decide) rfl ?_
    refine r_lsub (pc' := 16) hx (hd 11) rfl ?_
    refine r_callS (pc' := 19) (As := [.long ((p0 &&& (-p0)) - 1)]) (rest := []) hx (hd 12) md_J_Long_bitCount mst_J_Long_bitCount ml_11_148 (cJ_Long_bitCount (xl x) w hL ((p0 &&& (-p0)) - 1) M) ⟨Nat.le_of_ble_eq_true rfl, Nat.le_of_ble_eq_true rfl⟩ rfl rfl (Nat.le_of_ble_eq_true rfl) (fun r4 => .int r4 :: []) (fun _ => M) (fun _ => ⟨rfl, rfl⟩) rfl (fun r4 _ => ?_)
    refine r_sub [] rfl ?_
    exact hj3 r4
  · skip
    refine r_iconst (pc' := 7) (v := (-1)) hx (hd 4) (by decide) rfl ?_
    refine r_goto (tgt := 19) hx (hd 5) (by decide) ?_
    refine r_sub [] rfl ?_
    exact hj3 (-1)
abbrev yX11_cardAt : MethodName := ({ cls := "CribbageRoom", name := "cardAt", desc := "(JI)I" } : Jvm.MethodName)
def tbX11_cardAt : List (Nat × Instr × Nat) := [(0, .iload_n 2, 1), (1, .ifCond .lt 9, 3), (4, .iload_n 2, 1), (5, .bipush 52, 2), (7, .if_icmp .lt 5, 3), (10, .iconst (-1), 1), (11, .ireturn, 1), (12, .lload_n 0, 1), (13, .lstore_n 3, 1), (14, .iconst 0, 1), (15, .istore 5, 2), (17, .iload 5, 2), (19, .iload_n 2, 1), (20, .if_icmp .ge 15, 3), (23, .lload_n 3, 1), (24, .lload_n 3, 1), (25, .lconst 1, 1), (26, .lsub, 1), (27, .land, 1), (28, .lstore_n 3, 1), (29, .iinc 5 1, 3), (32, .goto (-15), 3), (35, .lload_n 3, 1), (36, .invokestatic 415, 3), (39, .ireturn, 1)]
theorem dX11_cardAt : ∀ q ∈ tbX11_cardAt, decode prog_1_method_60_code q.1 = .ok q.2 := by decide +kernel
set_option maxRecDepth 20000 in
theorem cX11_cardAt (l : Launch) (w : WX) (hL : Lay w) (p0 : Int64) (p2 : Int32) (M : Mem) : Ct l w yX11_cardAt prog_1_method_60_code 6 (Option.some FieldType.int) 2 42 evI (emC M) [.long p0, .int p2] M (FX11_cardAt p0 p2) := by
  refine ct_of (by decide) (Nat.le_of_ble_eq_true rfl) (fun x hl hx hb hz => ?_)
  subst hl
  have hd : ∀ i, DAt (xc x).code (tbX11_cardAt[i]?) := fun i => by rw [hb]; exact dat_of dX11_cardAt i
  show C x w (Qn x w evI (emC M)) 6 0 [(0, .long p0), (2, .int p2)] [] M (FX11_cardAt p0 p2)
  unfold FX11_cardAt
  refine r_iload_n (pc' := 1) hx (hd 0) rfl 1 rfl rfl ?_
  refine r_jn0 10 ([]) ([]) (M) (?_) (fun j1 hj2 => ?_)
  · skip
    refine r_iconst (pc' := 11) (v := (-1)) hx (hd 5) (by decide) rfl ?_
    exact r_iret hx (hd 6) rfl rfl hz
  refine r_if_lt (tgt := 10) (pc' := 4) hx (hd 1) (by decide) (fun _ => ?_) rfl (fun _ => ?_)
  · skip
    refine r_sub [] rfl ?_
    exact hj2
  · skip
    refine r_iload_n (pc' := 5) hx (hd 2) rfl 1 rfl rfl ?_
    refine r_bipush (pc' := 7) (v := 52) hx (hd 3) (by decide) rfl ?_
    refine r_icmp_lt (tgt := 12) (pc' := 10) hx (hd 4) (by decide) (fun _ => ?_) rfl (fun _ => ?_)
    · skip
      refine r_lload_n (pc' := 13) hx (hd 7) rfl 0 rfl rfl ?_
      refine r_lstore_n (pc' := 14) (L' := [(3, .long p0), (0, .long p0), (2, .int p2)]) hx (hd 8) rfl (by decide) rfl rfl ?_
      refine r_iconst (pc' := 15) (v := 0) hx (hd 9) (by decide) rfl ?_
      refine r_istore (pc' := 17) (L' := [(5, .int 0), (3, .long p0), (0, .long p0), (2, .int p2)]) hx (hd 10) (by decide) rfl rfl ?_
      refine r_sub [3, 1, 0] rfl ?_
      refine r_wl2 (fun v3 v4 => [(2, .int p2), (3, .long v3), (5, .int v4)]) (fun v3 v4 => []) (fun v3 v4 => M) (fun v3 v4 rec5 ih6 => ?_) fuel p0 0
      refine r_iload (pc' := 19) hx (hd 11) 2 rfl rfl ?_
      refine r_iload_n (pc' := 20) hx (hd 12) rfl 0 rfl rfl ?_
      refine r_icmp_ge (tgt := 35) (pc' := 23) hx (hd 13) (by decide) (fun _ => ?_) rfl (fun _ => ?_)
      · skip
        refine r_lload_n (pc' := 36) hx (hd 22) rfl 1 rfl rfl ?_
        refine r_callS (pc' := 39) (As := [.long v3]) (rest := []) hx (hd 23) md_X11_lowest mst_X11_lowest ml_11_415 (cX11_lowest (xl x) w hL v3 M) ⟨Nat.le_of_ble_eq_true rfl, Nat.le_of_ble_eq_true rfl⟩ rfl rfl (Nat.le_of_ble_eq_true rfl) (fun r7 => .int r7 :: []) (fun _ => M) (fun _ => ⟨rfl, rfl⟩) rfl (fun r7 _ => ?_)
        exact r_iret hx (hd 24) rfl rfl hz
      · skip
        refine r_lload_n (pc' := 24) hx (hd 14) rfl 1 rfl rfl ?_
        refine r_lload_n (pc' := 25) hx (hd 15) rfl 1 rfl rfl ?_
        refine r_lconst (pc' := 26) (v := 1) hx (hd 16) (by decide) rfl ?_
        refine r_lsub (pc' := 27) hx (hd 17) rfl ?_
        refine r_land (pc' := 28) hx (hd 18) rfl ?_
        refine r_nmJ (fun v8 => ?_)
        refine r_lstore_n (pc' := 29) (L' := [(3, .long v8), (2, .int p2), (5, .int v4)]) hx (hd 19) rfl (by decide) rfl rfl ?_
        refine r_iinc (pc' := 32) (v := 1) hx (hd 20) 2 rfl (by decide) (by decide) (fun v9 => [(5, .int v9), (3, .long v8), (2, .int p2)]) (fun _ => rfl) rfl (fun v9 => ?_)
        refine r_goto (tgt := 17) hx (hd 21) (by decide) ?_
        refine r_sub [2, 1, 0] rfl ?_
        exact ih6 v8 v9
    · skip
      refine r_sub [] rfl ?_
      exact hj2
abbrev yX11_hand : MethodName := ({ cls := "CribbageRoom", name := "hand", desc := "(II)I" } : Jvm.MethodName)
def tbX11_hand : List (Nat × Instr × Nat) := [(0, .iload_n 1, 1), (1, .invokestatic 141, 3), (4, .ifCond .eq 13, 3), (7, .iload_n 2, 1), (8, .ifCond .lt 9, 3), (11, .iload_n 2, 1), (12, .bipush 8, 2), (14, .if_icmp .le 5, 3), (17, .iconst (-1), 1), (18, .ireturn, 1), (19, .aload_n 0, 1), (20, .getfield 12, 3), (23, .getfield 113, 3), (26, .astore_n 3, 1), (27, .aload_n 3, 1), (28, .getfield 144, 3), (31, .iload_n 1, 1), (32, .laload, 1), (33, .lstore 4, 2), (35, .iload_n 2, 1), (36, .ifCond .ne 9, 3), (39, .lload 4, 2), (41, .invokestatic 148, 3), (44, .ireturn, 1), (45, .iload_n 2, 1), (46, .bipush 7, 2), (48, .if_icmp .ne 10, 3), (51, .aload_n 3, 1), (52, .getfield 154, 3), (55, .iload_n 1, 1), (56, .iaload, 1), (57, .ireturn, 1), (58, .iload_n 2, 1), (59, .bipush 8, 2), (61, .if_icmp .ne 18, 3), (64, .lload 4, 2), (66, .aload_n 3, 1), (67, .getfield 135, 3), (70, .ldc2_w 157, 3), (73, .lxor, 1), (74, .land, 1), (75, .invokestatic 148, 3), (78, .ireturn, 1), (79, .lload 4, 2), (81, .iload_n 2, 1), (82, .iconst 1, 1), (83, .isub, 1), (84, .invokestatic 159, 3), (87, .ireturn, 1)]
theorem dX11_hand : ∀ q ∈ tbX11_hand, decode prog_1_method_3_code q.1 = .ok q.2 := by decide +kernel
set_option maxRecDepth 20000 in
theorem cX11_hand (l : Launch) (w : WX) (hL : Lay w) (t : Nat) (ht : Wat w t 11 0) (p1 : Int32) (p2 : Int32) (M : Mem) : Ct l w yX11_hand prog_1_method_3_code 6 (Option.some FieldType.int) 3 67 evI (emC M) [.ref t, .int p1, .int p2] M (FX11_hand t p1 p2 M) := by
  refine ct_of (by decide) (Nat.le_of_ble_eq_true rfl) (fun x hl hx hb hz => ?_)
  subst hl
  have hd : ∀ i, DAt (xc x).code (tbX11_hand[i]?) := fun i => by rw [hb]; exact dat_of dX11_hand i
  show C x w (Qn x w evI (emC M)) 6 0 [(0, .ref t), (1, .int p1), (2, .int p2)] [] M (FX11_hand t p1 p2 M)
  unfold FX11_hand
  refine r_iload_n (pc' := 1) hx (hd 0) rfl 1 rfl rfl ?_
  refine r_callS (pc' := 4) (As := [.int p1]) (rest := []) hx (hd 1) md_X11_isPlayer mst_X11_isPlayer ml_11_141 (cX11_isPlayer (xl x) w hL p1 M) ⟨Nat.le_of_ble_eq_true rfl, Nat.le_of_ble_eq_true rfl⟩ rfl rfl (Nat.le_of_ble_eq_true rfl) (fun r1 => .int r1 :: []) (fun _ => M) (fun _ => ⟨rfl, rfl⟩) rfl (fun r1 _ => ?_)
  refine r_jn0 17 ([]) ([]) (M) (?_) (fun j2 hj3 => ?_)
  · skip
    refine r_iconst (pc' := 18) (v := (-1)) hx (hd 8) (by decide) rfl ?_
    exact r_iret hx (hd 9) rfl rfl hz
  refine r_if_eq (tgt := 17) (pc' := 7) hx (hd 2) (by decide) (fun _ => ?_) rfl (fun _ => ?_)
  · skip
    refine r_sub [] rfl ?_
    exact hj3
  · skip
    refine r_iload_n (pc' := 8) hx (hd 3) rfl 2 rfl rfl ?_
    refine r_if_lt (tgt := 17) (pc' := 11) hx (hd 4) (by decide) (fun _ => ?_) rfl (fun _ => ?_)
    · skip
      refine r_sub [] rfl ?_
      exact hj3
    · skip
      refine r_iload_n (pc' := 12) hx (hd 5) rfl 2 rfl rfl ?_
      refine r_bipush (pc' := 14) (v := 8) hx (hd 6) (by decide) rfl ?_
      refine r_icmp_le (tgt := 19) (pc' := 17) hx (hd 7) (by decide) (fun _ => ?_) rfl (fun _ => ?_)
      · skip
        refine r_aload_n (pc' := 20) hx (hd 10) rfl 0 rfl rfl ?_
        refine r_get (pc' := 23) (v := .ref (t + 1)) hx (hd 11) fl_11_12 ht rfl (by decide) rfl ?_
        have h4 := hL.1 _ _ _ ht 0 1 6 0 rfl
        refine r_get (pc' := 26) (v := .ref ((t + 1) + 1)) hx (hd 12) fl_11_113 h4 rfl (by decide) rfl ?_
        have h5 := hL.1 _ _ _ h4 0 1 8 0 rfl
        refine r_astore_n (pc' := 27) (L' := [(3, .ref ((t + 1) + 1)), (0, .ref t), (1, .int p1), (2, .int p2)]) hx (hd 13) rfl (by decide) rfl rfl ?_
        refine r_aload_n (pc' := 28) hx (hd 14) rfl 0 rfl rfl ?_
        refine r_get (pc' := 31) (v := .ref (((t + 1) + 1) + 1)) hx (hd 15) fl_11_144 h5 rfl (by decide) rfl ?_
        have h6 := hL.1 _ _ _ h5 0 1 21 2 rfl
        refine r_iload_n (pc' := 32) hx (hd 16) rfl 2 rfl rfl ?_
        refine r_gd (fun h7 => ?_)
        refine r_lald (pc' := 33) (k := ix p1) hx (hd 17) h6 h7 rfl rfl ?_
        refine r_nmJ (fun v8 => ?_)
        refine r_lstore (pc' := 35) (L' := [(4, .long v8), (3, .ref ((t + 1) + 1)), (0, .ref t), (1, .int p1), (2, .int p2)]) hx (hd 18) (by decide) rfl rfl ?_
        refine r_iload_n (pc' := 36) hx (hd 19) rfl 4 rfl rfl ?_
        refine r_if_ne (tgt := 45) (pc' := 39) hx (hd 20) (by decide) (fun _ => ?_) rfl (fun _ => ?_)
        · skip
          refine r_iload_n (pc' := 46) hx (hd 24) rfl 4 rfl rfl ?_
          refine r_bipush (pc' := 48) (v := 7) hx (hd 25) (by decide) rfl ?_
          refine r_icmp_ne (tgt := 58) (pc' := 51) hx (hd 26) (by decide) (fun _ => ?_) rfl (fun _ => ?_)
          · skip
            refine r_iload_n (pc' := 59) hx (hd 32) rfl 4 rfl rfl ?_
            refine r_bipush (pc' := 61) (v := 8) hx (hd 33) (by decide) rfl ?_
            refine r_icmp_ne (tgt := 79) (pc' := 64) hx (hd 34) (by decide) (fun _ => ?_) rfl (fun _ => ?_)
            · skip
              refine r_lload (pc' := 81) hx (hd 43) 0 rfl rfl ?_
              refine r_iload_n (pc' := 82) hx (hd 44) rfl 4 rfl rfl ?_
              refine r_iconst (pc' := 83) (v := 1) hx (hd 45) (by decide) rfl ?_
              refine r_isub (pc' := 84) hx (hd 46) rfl ?_
              refine r_callS (pc' := 87) (As := [.long v8, .int (p2 - 1)]) (rest := []) hx (hd 47) md_X11_cardAt mst_X11_cardAt ml_11_159 (cX11_cardAt (xl x) w hL v8 (p2 - 1) M) ⟨Nat.le_of_ble_eq_true rfl, Nat.le_of_ble_eq_true rfl⟩ rfl rfl (Nat.le_of_ble_eq_true rfl) (fun r9 => .int r9 :: []) (fun _ => M) (fun _ => ⟨rfl, rfl⟩) rfl (fun r9 _ => ?_)
              exact r_iret hx (hd 48) rfl rfl hz
            · skip
              refine r_lload (pc' := 66) hx (hd 35) 0 rfl rfl ?_
              refine r_aload_n (pc' := 67) hx (hd 36) rfl 1 rfl rfl ?_
              refine r_get (pc' := 70) (v := .long (mJ M ((t + 1) + 1) 4)) hx (hd 37) fl_11_135 h5 rfl (by decide) rfl ?_
              refine r_ldc2 (pc' := 73) hx (hd 38) kc_11_157 rfl ?_
              refine r_lxor (pc' := 74) hx (hd 39) rfl ?_
              refine r_land (pc' := 75) hx (hd 40) rfl ?_
              refine r_callS (pc' := 78) (As := [.long (v8 &&& ((mJ M ((t + 1) + 1) 4) ^^^ (-1)))]) (rest := []) hx (hd 41) md_J_Long_bitCount mst_J_Long_bitCount ml_11_148 (cJ_Long_bitCount (xl x) w hL (v8 &&& ((mJ M ((t + 1) + 1) 4) ^^^ (-1))) M) ⟨Nat.le_of_ble_eq_true rfl, Nat.le_of_ble_eq_true rfl⟩ rfl rfl (Nat.le_of_ble_eq_true rfl) (fun r10 => .int r10 :: []) (fun _ => M) (fun _ => ⟨rfl, rfl⟩) rfl (fun r10 _ => ?_)
              exact r_iret hx (hd 42) rfl rfl hz
          · skip
            refine r_aload_n (pc' := 52) hx (hd 27) rfl 1 rfl rfl ?_
            refine r_get (pc' := 55) (v := .ref (((t + 1) + 1) + 2)) hx (hd 28) fl_11_154 h5 rfl (by decide) rfl ?_
            have h11 := hL.1 _ _ _ h5 1 2 20 2 rfl
            refine r_iload_n (pc' := 56) hx (hd 29) rfl 3 rfl rfl ?_
            refine r_gd (fun h12 => ?_)
            refine r_iald (pc' := 57) (k := ix p1) hx (hd 30) h11 h12 rfl rfl ?_
            exact r_iret hx (hd 31) rfl rfl hz
        · skip
          refine r_lload (pc' := 41) hx (hd 21) 0 rfl rfl ?_
          refine r_callS (pc' := 44) (As := [.long v8]) (rest := []) hx (hd 22) md_J_Long_bitCount mst_J_Long_bitCount ml_11_148 (cJ_Long_bitCount (xl x) w hL v8 M) ⟨Nat.le_of_ble_eq_true rfl, Nat.le_of_ble_eq_true rfl⟩ rfl rfl (Nat.le_of_ble_eq_true rfl) (fun r13 => .int r13 :: []) (fun _ => M) (fun _ => ⟨rfl, rfl⟩) rfl (fun r13 _ => ?_)
          exact r_iret hx (hd 23) rfl rfl hz
      · skip
        refine r_sub [] rfl ?_
        exact hj3
abbrev yX11_count : MethodName := ({ cls := "CribbageRoom", name := "count", desc := "(I)I" } : Jvm.MethodName)
def tbX11_count : List (Nat × Instr × Nat) := [(0, .aload_n 0, 1), (1, .getfield 12, 3), (4, .getfield 113, 3), (7, .astore_n 2, 1), (8, .iload_n 1, 1), (9, .tableswitch 223 0 22 #[107, 112, 117, 122, 130, 135, 140, 145, 150, 161, 169, 177, 185, 193, 193, 193, 193, 193, 203, 211, 211, 211, 211], 107), (116, .aload_n 2, 1), (117, .getfield 163, 3), (120, .ireturn, 1), (121, .aload_n 2, 1), (122, .getfield 166, 3), (125, .ireturn, 1), (126, .aload_n 2, 1), (127, .getfield 169, 3), (130, .ireturn, 1), (131, .aload_n 2, 1), (132, .getfield 172, 3), (135, .invokestatic 148, 3), (138, .ireturn, 1), (139, .aload_n 2, 1), (140, .getfield 175, 3), (143, .ireturn, 1), (144, .aload_n 2, 1), (145, .getfield 178, 3), (148, .ireturn, 1), (149, .aload_n 2, 1), (150, .getfield 181, 3), (153, .ireturn, 1), (154, .aload_n 2, 1), (155, .getfield 184, 3), (158, .ireturn, 1), (159, .aload_n 0, 1), (160, .getfield 12, 3), (163, .getfield 138, 3), (166, .invokestatic 148, 3), (169, .ireturn, 1), (170, .aload_n 0, 1), (171, .getfield 12, 3), (174, .getfield 187, 3), (177, .ireturn, 1), (178, .aload_n 0, 1), (179, .getfield 12, 3), (182, .getfield 190, 3), (185, .ireturn, 1), (186, .aload_n 0, 1), (187, .getfield 23, 3), (190, .getfield 193, 3), (193, .ireturn, 1), (194, .aload_n 0, 1), (195, .getfield 43, 3), (198, .getfield 196, 3), (201, .ireturn, 1), (202, .aload_n 0, 1), (203, .getfield 96, 3), (206, .iload_n 1, 1), (207, .bipush 13, 2), (209, .isub, 1), (210, .iaload, 1), (211, .ireturn, 1), (212, .aload_n 0, 1), (213, .getfield 12, 3), (216, .getfield 110, 3), (219, .ireturn, 1), (220, .aload_n 0, 1), (221, .getfield 12, 3), (224, .iload_n 1, 1), (225, .bipush 19, 2), (227, .isub, 1), (228, .invokevirtual 199, 3), (231, .ireturn, 1), (232, .iconst (-1), 1), (233, .ireturn, 1)]
theorem dX11_count : ∀ q ∈ tbX11_count, decode prog_1_method_4_code q.1 = .ok q.2 := by decide +kernel
set_option maxRecDepth 20000 in
theorem cX11_count (l : Launch) (w : WX) (hL : Lay w) (t : Nat) (ht : Wat w t 11 0) (p1 : Int32) (M : Mem) : Ct l w yX11_count prog_1_method_4_code 3 (Option.some FieldType.int) 1 21 evI (emC M) [.ref t, .int p1] M (FX11_count t p1 M) := by
  refine ct_of (by decide) (Nat.le_of_ble_eq_true rfl) (fun x hl hx hb hz => ?_)
  subst hl
  have hd : ∀ i, DAt (xc x).code (tbX11_count[i]?) := fun i => by rw [hb]; exact dat_of dX11_count i
  show C x w (Qn x w evI (emC M)) 3 0 [(0, .ref t), (1, .int p1)] [] M (FX11_count t p1 M)
  unfold FX11_count
  refine r_aload_n (pc' := 1) hx (hd 0) rfl 0 rfl rfl ?_
  refine r_get (pc' := 4) (v := .ref (t + 1)) hx (hd 1) fl_11_12 ht rfl (by decide) rfl ?_
  have h1 := hL.1 _ _ _ ht 0 1 6 0 rfl
  refine r_get (pc' := 7) (v := .ref ((t + 1) + 1)) hx (hd 2) fl_11_113 h1 rfl (by decide) rfl ?_
  have h2 := hL.1 _ _ _ h1 0 1 8 0 rfl
  refine r_astore_n (pc' := 8) (L' := [(2, .ref ((t + 1) + 1)), (0, .ref t), (1, .int p1)]) hx (hd 3) rfl (by decide) rfl rfl ?_
  refine r_iload_n (pc' := 9) hx (hd 4) rfl 2 rfl rfl ?_
  refine r_table (td := 232) [116, 121, 126, 131, 139, 144, 149, 154, 159, 170, 178, 186, 194, 202, 202, 202, 202, 202, 212, 220, 220, 220, 220] hx (hd 5) rfl rfl rfl (by decide) ?_ ?_
  · skip
    refine r_iconst (pc' := 233) (v := (-1)) hx (hd 70) (by decide) rfl ?_
    exact r_iret hx (hd 71) rfl rfl hz
  refine ⟨?_, ?_, ?_, ?_, ?_, ?_, ?_, ?_, ?_, ?_, ?_, ?_, ?_, ?_, ?_, ?_, ?_, ?_, ?_, ?_, ?_, ?_, ?_,  trivial⟩
  · skip
    refine r_aload_n (pc' := 117) hx (hd 6) rfl 0 rfl rfl ?_
    refine r_get (pc' := 120) (v := .int (mI M ((t + 1) + 1) 5)) hx (hd 7) fl_11_163 h2 rfl (by decide) rfl ?_
    exact r_iret hx (hd 8) rfl rfl hz
  · skip
    refine r_aload_n (pc' := 122) hx (hd 9) rfl 0 rfl rfl ?_
    refine r_get (pc' := 125) (v := .int (mI M ((t + 1) + 1) 6)) hx (hd 10) fl_11_166 h2 rfl (by decide) rfl ?_
    exact r_iret hx (hd 11) rfl rfl hz
  · skip
    refine r_aload_n (pc' := 127) hx (hd 12) rfl 0 rfl rfl ?_
    refine r_get (pc' := 130) (v := .int (mI M ((t + 1) + 1) 7)) hx (hd 13) fl_11_169 h2 rfl (by decide) rfl ?_
    exact r_iret hx (hd 14) rfl rfl hz
  · skip
    refine r_aload_n (pc' := 132) hx (hd 15) rfl 0 rfl rfl ?_
    refine r_get (pc' := 135) (v := .long (mJ M ((t + 1) + 1) 3)) hx (hd 16) fl_11_172 h2 rfl (by decide) rfl ?_
    refine r_callS (pc' := 138) (As := [.long (mJ M ((t + 1) + 1) 3)]) (rest := []) hx (hd 17) md_J_Long_bitCount mst_J_Long_bitCount ml_11_148 (cJ_Long_bitCount (xl x) w hL (mJ M ((t + 1) + 1) 3) M) ⟨Nat.le_of_ble_eq_true rfl, Nat.le_of_ble_eq_true rfl⟩ rfl rfl (Nat.le_of_ble_eq_true rfl) (fun r3 => .int r3 :: []) (fun _ => M) (fun _ => ⟨rfl, rfl⟩) rfl (fun r3 _ => ?_)
    exact r_iret hx (hd 18) rfl rfl hz
  · skip
    refine r_aload_n (pc' := 140) hx (hd 19) rfl 0 rfl rfl ?_
    refine r_get (pc' := 143) (v := .int (mI M ((t + 1) + 1) 9)) hx (hd 20) fl_11_175 h2 rfl (by decide) rfl ?_
    exact r_iret hx (hd 21) rfl rfl hz
  · skip
    refine r_aload_n (pc' := 145) hx (hd 22) rfl 0 rfl rfl ?_
    refine r_get (pc' := 148) (v := .int (mI M ((t + 1) + 1) 8)) hx (hd 23) fl_11_178 h2 rfl (by decide) rfl ?_
    exact r_iret hx (hd 24) rfl rfl hz
  · skip
    refine r_aload_n (pc' := 150) hx (hd 25) rfl 0 rfl rfl ?_
    refine r_get (pc' := 153) (v := .int (mI M ((t + 1) + 1) 10)) hx (hd 26) fl_11_181 h2 rfl (by decide) rfl ?_
    exact r_iret hx (hd 27) rfl rfl hz
  · skip
    refine r_aload_n (pc' := 155) hx (hd 28) rfl 0 rfl rfl ?_
    refine r_get (pc' := 158) (v := .int (mI M ((t + 1) + 1) 11)) hx (hd 29) fl_11_184 h2 rfl (by decide) rfl ?_
    exact r_iret hx (hd 30) rfl rfl hz
  · skip
    refine r_aload_n (pc' := 160) hx (hd 31) rfl 1 rfl rfl ?_
    refine r_get (pc' := 163) (v := .ref (t + 1)) hx (hd 32) fl_11_12 ht rfl (by decide) rfl ?_
    have h4 := hL.1 _ _ _ ht 0 1 6 0 rfl
    refine r_get (pc' := 166) (v := .long (mJ M (t + 1) 5)) hx (hd 33) fl_11_138 h4 rfl (by decide) rfl ?_
    refine r_callS (pc' := 169) (As := [.long (mJ M (t + 1) 5)]) (rest := []) hx (hd 34) md_J_Long_bitCount mst_J_Long_bitCount ml_11_148 (cJ_Long_bitCount (xl x) w hL (mJ M (t + 1) 5) M) ⟨Nat.le_of_ble_eq_true rfl, Nat.le_of_ble_eq_true rfl⟩ rfl rfl (Nat.le_of_ble_eq_true rfl) (fun r5 => .int r5 :: []) (fun _ => M) (fun _ => ⟨rfl, rfl⟩) rfl (fun r5 _ => ?_)
    exact r_iret hx (hd 35) rfl rfl hz
  · skip
    refine r_aload_n (pc' := 171) hx (hd 36) rfl 1 rfl rfl ?_
    refine r_get (pc' := 174) (v := .ref (t + 1)) hx (hd 37) fl_11_12 ht rfl (by decide) rfl ?_
    have h6 := hL.1 _ _ _ ht 0 1 6 0 rfl
    refine r_get (pc' := 177) (v := .int (mI M (t + 1) 6)) hx (hd 38) fl_11_187 h6 rfl (by decide) rfl ?_
    exact r_iret hx (hd 39) rfl rfl hz
  · skip
    refine r_aload_n (pc' := 179) hx (hd 40) rfl 1 rfl rfl ?_
    refine r_get (pc' := 182) (v := .ref (t + 1)) hx (hd 41) fl_11_12 ht rfl (by decide) rfl ?_
    have h7 := hL.1 _ _ _ ht 0 1 6 0 rfl
    refine r_get (pc' := 185) (v := .int (mI M (t + 1) 7)) hx (hd 42) fl_11_190 h7 rfl (by decide) rfl ?_
    exact r_iret hx (hd 43) rfl rfl hz
  · skip
    refine r_aload_n (pc' := 187) hx (hd 44) rfl 1 rfl rfl ?_
    refine r_get (pc' := 190) (v := .ref (t + 29)) hx (hd 45) fl_11_23 ht rfl (by decide) rfl ?_
    have h8 := hL.1 _ _ _ ht 2 29 4 0 rfl
    refine r_get (pc' := 193) (v := .int (mI M (t + 29) 3)) hx (hd 46) fl_11_193 h8 rfl (by decide) rfl ?_
    exact r_iret hx (hd 47) rfl rfl hz
  · skip
    refine r_aload_n (pc' := 195) hx (hd 48) rfl 1 rfl rfl ?_
    refine r_get (pc' := 198) (v := .ref (t + 171)) hx (hd 49) fl_11_43 ht rfl (by decide) rfl ?_
    have h9 := hL.1 _ _ _ ht 6 171 5 0 rfl
    refine r_get (pc' := 201) (v := .int (mI M (t + 171) 2)) hx (hd 50) fl_11_196 h9 rfl (by decide) rfl ?_
    exact r_iret hx (hd 51) rfl rfl hz
  · skip
    refine r_aload_n (pc' := 203) hx (hd 52) rfl 1 rfl rfl ?_
    refine r_get (pc' := 206) (v := .ref (t + 275)) hx (hd 53) fl_11_96 ht rfl (by decide) rfl ?_
    have h10 := hL.1 _ _ _ ht 14 275 20 5 rfl
    refine r_iload_n (pc' := 207) hx (hd 54) rfl 2 rfl rfl ?_
    refine r_bipush (pc' := 209) (v := 13) hx (hd 55) (by decide) rfl ?_
    refine r_isub (pc' := 210) hx (hd 56) rfl ?_
    refine r_gd (fun h11 => ?_)
    refine r_iald (pc' := 211) (k := ix (p1 - 13)) hx (hd 57) h10 h11 rfl rfl ?_
    exact r_iret hx (hd 58) rfl rfl hz
  · skip
    refine r_aload_n (pc' := 203) hx (hd 52) rfl 1 rfl rfl ?_
    refine r_get (pc' := 206) (v := .ref (t + 275)) hx (hd 53) fl_11_96 ht rfl (by decide) rfl ?_
    have h12 := hL.1 _ _ _ ht 14 275 20 5 rfl
    refine r_iload_n (pc' := 207) hx (hd 54) rfl 2 rfl rfl ?_
    refine r_bipush (pc' := 209) (v := 13) hx (hd 55) (by decide) rfl ?_
    refine r_isub (pc' := 210) hx (hd 56) rfl ?_
    refine r_gd (fun h13 => ?_)
    refine r_iald (pc' := 211) (k := ix (p1 - 13)) hx (hd 57) h12 h13 rfl rfl ?_
    exact r_iret hx (hd 58) rfl rfl hz
  · skip
    refine r_aload_n (pc' := 203) hx (hd 52) rfl 1 rfl rfl ?_
    refine r_get (pc' := 206) (v := .ref (t + 275)) hx (hd 53) fl_11_96 ht rfl (by decide) rfl ?_
    have h14 := hL.1 _ _ _ ht 14 275 20 5 rfl
    refine r_iload_n (pc' := 207) hx (hd 54) rfl 2 rfl rfl ?_
    refine r_bipush (pc' := 209) (v := 13) hx (hd 55) (by decide) rfl ?_
    refine r_isub (pc' := 210) hx (hd 56) rfl ?_
    refine r_gd (fun h15 => ?_)
    refine r_iald (pc' := 211) (k := ix (p1 - 13)) hx (hd 57) h14 h15 rfl rfl ?_
    exact r_iret hx (hd 58) rfl rfl hz
  · skip
    refine r_aload_n (pc' := 203) hx (hd 52) rfl 1 rfl rfl ?_
    refine r_get (pc' := 206) (v := .ref (t + 275)) hx (hd 53) fl_11_96 ht rfl (by decide) rfl ?_
    have h16 := hL.1 _ _ _ ht 14 275 20 5 rfl
    refine r_iload_n (pc' := 207) hx (hd 54) rfl 2 rfl rfl ?_
    refine r_bipush (pc' := 209) (v := 13) hx (hd 55) (by decide) rfl ?_
    refine r_isub (pc' := 210) hx (hd 56) rfl ?_
    refine r_gd (fun h17 => ?_)
    refine r_iald (pc' := 211) (k := ix (p1 - 13)) hx (hd 57) h16 h17 rfl rfl ?_
    exact r_iret hx (hd 58) rfl rfl hz
  · skip
    refine r_aload_n (pc' := 203) hx (hd 52) rfl 1 rfl rfl ?_
    refine r_get (pc' := 206) (v := .ref (t + 275)) hx (hd 53) fl_11_96 ht rfl (by decide) rfl ?_
    have h18 := hL.1 _ _ _ ht 14 275 20 5 rfl
    refine r_iload_n (pc' := 207) hx (hd 54) rfl 2 rfl rfl ?_
    refine r_bipush (pc' := 209) (v := 13) hx (hd 55) (by decide) rfl ?_
    refine r_isub (pc' := 210) hx (hd 56) rfl ?_
    refine r_gd (fun h19 => ?_)
    refine r_iald (pc' := 211) (k := ix (p1 - 13)) hx (hd 57) h18 h19 rfl rfl ?_
    exact r_iret hx (hd 58) rfl rfl hz
  · skip
    refine r_aload_n (pc' := 213) hx (hd 59) rfl 1 rfl rfl ?_
    refine r_get (pc' := 216) (v := .ref (t + 1)) hx (hd 60) fl_11_12 ht rfl (by decide) rfl ?_
    have h20 := hL.1 _ _ _ ht 0 1 6 0 rfl
    refine r_get (pc' := 219) (v := .int (mI M (t + 1) 8)) hx (hd 61) fl_11_110 h20 rfl (by decide) rfl ?_
    exact r_iret hx (hd 62) rfl rfl hz
  · skip
    refine r_aload_n (pc' := 221) hx (hd 63) rfl 1 rfl rfl ?_
    refine r_get (pc' := 224) (v := .ref (t + 1)) hx (hd 64) fl_11_12 ht rfl (by decide) rfl ?_
    have h21 := hL.1 _ _ _ ht 0 1 6 0 rfl
    refine r_iload_n (pc' := 225) hx (hd 65) rfl 2 rfl rfl ?_
    refine r_bipush (pc' := 227) (v := 19) hx (hd 66) (by decide) rfl ?_
    refine r_isub (pc' := 228) hx (hd 67) rfl ?_
    refine r_callV (pc' := 231) (As := [.int (p1 - 19)]) (rest := []) hx (hd 68) md_X6_term mi_X6_term ms_X6_term ml_11_199 (cX6_term (xl x) w hL (t + 1) h21 (p1 - 19) M) h21 rfl (by decide) ⟨Nat.le_of_ble_eq_true rfl, Nat.le_of_ble_eq_true rfl⟩ rfl rfl (Nat.le_of_ble_eq_true rfl) (fun r22 => .int r22 :: []) (fun _ => M) (fun _ => ⟨rfl, rfl⟩) rfl (fun r22 _ => ?_)
    exact r_iret hx (hd 69) rfl rfl hz
  · skip
    refine r_aload_n (pc' := 221) hx (hd 63) rfl 1 rfl rfl ?_
    refine r_get (pc' := 224) (v := .ref (t + 1)) hx (hd 64) fl_11_12 ht rfl (by decide) rfl ?_
    have h23 := hL.1 _ _ _ ht 0 1 6 0 rfl
    refine r_iload_n (pc' := 225) hx (hd 65) rfl 2 rfl rfl ?_
    refine r_bipush (pc' := 227) (v := 19) hx (hd 66) (by decide) rfl ?_
    refine r_isub (pc' := 228) hx (hd 67) rfl ?_
    refine r_callV (pc' := 231) (As := [.int (p1 - 19)]) (rest := []) hx (hd 68) md_X6_term mi_X6_term ms_X6_term ml_11_199 (cX6_term (xl x) w hL (t + 1) h23 (p1 - 19) M) h23 rfl (by decide) ⟨Nat.le_of_ble_eq_true rfl, Nat.le_of_ble_eq_true rfl⟩ rfl rfl (Nat.le_of_ble_eq_true rfl) (fun r24 => .int r24 :: []) (fun _ => M) (fun _ => ⟨rfl, rfl⟩) rfl (fun r24 _ => ?_)
    exact r_iret hx (hd 69) rfl rfl hz
  · skip
    refine r_aload_n (pc' := 221) hx (hd 63) rfl 1 rfl rfl ?_
    refine r_get (pc' := 224) (v := .ref (t + 1)) hx (hd 64) fl_11_12 ht rfl (by decide) rfl ?_
    have h25 := hL.1 _ _ _ ht 0 1 6 0 rfl
    refine r_iload_n (pc' := 225) hx (hd 65) rfl 2 rfl rfl ?_
    refine r_bipush (pc' := 227) (v := 19) hx (hd 66) (by decide) rfl ?_
    refine r_isub (pc' := 228) hx (hd 67) rfl ?_
    refine r_callV (pc' := 231) (As := [.int (p1 - 19)]) (rest := []) hx (hd 68) md_X6_term mi_X6_term ms_X6_term ml_11_199 (cX6_term (xl x) w hL (t + 1) h25 (p1 - 19) M) h25 rfl (by decide) ⟨Nat.le_of_ble_eq_true rfl, Nat.le_of_ble_eq_true rfl⟩ rfl rfl (Nat.le_of_ble_eq_true rfl) (fun r26 => .int r26 :: []) (fun _ => M) (fun _ => ⟨rfl, rfl⟩) rfl (fun r26 _ => ?_)
    exact r_iret hx (hd 69) rfl rfl hz
  · skip
    refine r_aload_n (pc' := 221) hx (hd 63) rfl 1 rfl rfl ?_
    refine r_get (pc' := 224) (v := .ref (t + 1)) hx (hd 64) fl_11_12 ht rfl (by decide) rfl ?_
    have h27 := hL.1 _ _ _ ht 0 1 6 0 rfl
    refine r_iload_n (pc' := 225) hx (hd 65) rfl 2 rfl rfl ?_
    refine r_bipush (pc' := 227) (v := 19) hx (hd 66) (by decide) rfl ?_
    refine r_isub (pc' := 228) hx (hd 67) rfl ?_
    refine r_callV (pc' := 231) (As := [.int (p1 - 19)]) (rest := []) hx (hd 68) md_X6_term mi_X6_term ms_X6_term ml_11_199 (cX6_term (xl x) w hL (t + 1) h27 (p1 - 19) M) h27 rfl (by decide) ⟨Nat.le_of_ble_eq_true rfl, Nat.le_of_ble_eq_true rfl⟩ rfl rfl (Nat.le_of_ble_eq_true rfl) (fun r28 => .int r28 :: []) (fun _ => M) (fun _ => ⟨rfl, rfl⟩) rfl (fun r28 _ => ?_)
    exact r_iret hx (hd 69) rfl rfl hz
abbrev yX11_status : MethodName := ({ cls := "CribbageRoom", name := "status", desc := "()I" } : Jvm.MethodName)
def tbX11_status : List (Nat × Instr × Nat) := [(0, .aload_n 0, 1), (1, .getfield 202, 3), (4, .ireturn, 1)]
theorem dX11_status : ∀ q ∈ tbX11_status, decode prog_1_method_5_code q.1 = .ok q.2 := by decide +kernel
set_option maxRecDepth 20000 in
theorem cX11_status (l : Launch) (w : WX) (hL : Lay w) (t : Nat) (ht : Wat w t 11 0) (M : Mem) : Ct l w yX11_status prog_1_method_5_code 1 (Option.some FieldType.int) 0 0 evI (emC M) [.ref t] M (FX11_status t M) := by
  refine ct_of (by decide) (Nat.le_of_ble_eq_true rfl) (fun x hl hx hb hz => ?_)
  subst hl
  have hd : ∀ i, DAt (xc x).code (tbX11_status[i]?) := fun i => by rw [hb]; exact dat_of dX11_status i
  show C x w (Qn x w evI (emC M)) 1 0 [(0, .ref t)] [] M (FX11_status t M)
  unfold FX11_status
  refine r_aload_n (pc' := 1) hx (hd 0) rfl 0 rfl rfl ?_
  refine r_get (pc' := 4) (v := .int (mI M t 16)) hx (hd 1) fl_11_202 ht rfl (by decide) rfl ?_
  exact r_iret hx (hd 2) rfl rfl hz
abbrev yX11_refuse : MethodName := ({ cls := "CribbageRoom", name := "refuse", desc := "(I)I" } : Jvm.MethodName)
def tbX11_refuse : List (Nat × Instr × Nat) := [(0, .aload_n 0, 1), (1, .iload_n 1, 1), (2, .putfield 202, 3), (5, .iconst 0, 1), (6, .istore_n 2, 1), (7, .iload_n 2, 1), (8, .getstatic 92, 3), (11, .arraylength, 1), (12, .if_icmp .ge 28, 3), (15, .getstatic 92, 3), (18, .iload_n 2, 1), (19, .iaload, 1), (20, .iload_n 1, 1), (21, .if_icmp .ne 13, 3), (24, .aload_n 0, 1), (25, .getfield 96, 3), (28, .iload_n 2, 1), (29, .dup2, 1), (30, .iaload, 1), (31, .iconst 1, 1), (32, .iadd, 1), (33, .iastore, 1), (34, .iinc 2 1, 3), (37, .goto (-30), 3), (40, .iload_n 1, 1), (41, .ireturn, 1)]
theorem dX11_refuse : ∀ q ∈ tbX11_refuse, decode prog_1_method_39_code q.1 = .ok q.2 := by decide +kernel
set_option maxRecDepth 20000 in
theorem cX11_refuse (l : Launch) (w : WX) (hL : Lay w) (t : Nat) (ht : Wat w t 11 0) (p1 : Int32) (M : Mem) : Ct l w yX11_refuse prog_1_method_39_code 3 (Option.some FieldType.int) 0 0 evIM emM [.ref t, .int p1] M (FX11_refuse t p1 M) := by
  refine ct_of (by decide) (Nat.le_of_ble_eq_true rfl) (fun x hl hx hb hz => ?_)
  subst hl
  have hd : ∀ i, DAt (xc x).code (tbX11_refuse[i]?) := fun i => by rw [hb]; exact dat_of dX11_refuse i
  show C x w (Qn x w evIM emM) 3 0 [(0, .ref t), (1, .int p1)] [] M (FX11_refuse t p1 M)
  unfold FX11_refuse
  refine r_aload_n (pc' := 1) hx (hd 0) rfl 0 rfl rfl ?_
  refine r_iload_n (pc' := 2) hx (hd 1) rfl 1 rfl rfl ?_
  refine r_putI (pc' := 5) hx (hd 2) fp_11_202 ht rfl (by decide) rfl (fun M1 => ?_)
  refine r_iconst (pc' := 6) (v := 0) hx (hd 3) (by decide) rfl ?_
  refine r_istore_n (pc' := 7) (L' := [(2, .int 0), (0, .ref t), (1, .int p1)]) hx (hd 4) rfl (by decide) rfl rfl ?_
  refine r_sub [1, 2, 0] rfl ?_
  refine r_wl2 (fun v2 M3 => [(0, .ref t), (1, .int p1), (2, .int v2)]) (fun v2 M3 => []) (fun v2 M3 => M3) (fun v2 M3 rec4 ih5 => ?_) fuel 0 M1
  refine r_iload_n (pc' := 8) hx (hd 5) rfl 2 rfl rfl ?_
  refine r_gets (pc' := 11) (i := 2) hx (hd 6) rfl gs_11_92 rfl ?_
  refine r_slen (pc' := 12) (i := 2) (v := 5) hx (hd 7) rfl (by decide) rfl ?_
  refine r_icmp_ge (tgt := 40) (pc' := 15) hx (hd 8) (by decide) (fun _ => ?_) rfl (fun _ => ?_)
  · skip
    refine r_iload_n (pc' := 41) hx (hd 24) rfl 1 rfl rfl ?_
    exact r_iret hx (hd 25) rfl rfl hz
  · skip
    refine r_gets (pc' := 18) (i := 2) hx (hd 9) rfl gs_11_92 rfl ?_
    refine r_iload_n (pc' := 19) hx (hd 10) rfl 2 rfl rfl ?_
    refine r_gd (fun h6 => ?_)
    refine r_sald (pc' := 20) (i := 2) (k := ix v2) (v := (([-1, -2, -3, -5, -6] : List Int32).getD (ix v2) 0)) hx (hd 11) rfl h6 rfl rfl rfl ?_
    refine r_iload_n (pc' := 21) hx (hd 12) rfl 1 rfl rfl ?_
    refine r_jn1 34 (fun M7 => [(0, .ref t), (1, .int p1), (2, .int v2)]) (fun M7 => []) (fun M7 => M7) (fun M7 => ?_) (fun j8 hj9 => ?_)
    · skip
      refine r_iinc (pc' := 37) (v := 1) hx (hd 22) 2 rfl (by decide) (by decide) (fun v10 => [(2, .int v10), (0, .ref t), (1, .int p1)]) (fun _ => rfl) rfl (fun v10 => ?_)
      refine r_goto (tgt := 7) hx (hd 23) (by decide) ?_
      refine r_sub [1, 2, 0] rfl ?_
      exact ih5 v10 M7
    refine r_icmp_ne (tgt := 34) (pc' := 24) hx (hd 13) (by decide) (fun _ => ?_) rfl (fun _ => ?_)
    · skip
      exact hj9 M3
    · skip
      refine r_aload_n (pc' := 25) hx (hd 14) rfl 0 rfl rfl ?_
      refine r_get (pc' := 28) (v := .ref (t + 275)) hx (hd 15) fl_11_96 ht rfl (by decide) rfl ?_
      have h11 := hL.1 _ _ _ ht 14 275 20 5 rfl
      refine r_iload_n (pc' := 29) hx (hd 16) rfl 2 rfl rfl ?_
      refine r_dup2 (pc' := 30) hx (hd 17) rfl rfl rfl ?_
      refine r_gd (fun h12 => ?_)
      refine r_iald (pc' := 31) (k := ix v2) hx (hd 18) h11 h12 rfl rfl ?_
      refine r_iconst (pc' := 32) (v := 1) hx (hd 19) (by decide) rfl ?_
      refine r_iadd (pc' := 33) hx (hd 20) rfl ?_
      refine r_gd (fun h14 => ?_)
      refine r_iast (pc' := 34) (k := ix v2) hx (hd 21) h11 h14 rfl rfl (fun M13 => ?_)
      exact hj9 M13
abbrev yX6_setTerm : MethodName := ({ cls := "CribbageRoom$State", name := "setTerm", desc := "(II)V" } : Jvm.MethodName)
def tbX6_setTerm : List (Nat × Instr × Nat) := [(0, .iload_n 1, 1), (1, .iconst 1, 1), (2, .if_icmp .lt 20, 3), (5, .iload_n 1, 1), (6, .iconst 4, 1), (7, .if_icmp .ge 15, 3), (10, .aload_n 0, 1), (11, .getfield 31, 3), (14, .iload_n 1, 1), (15, .iconst 1, 1), (16, .isub, 1), (17, .iload_n 2, 1), (18, .iastore, 1), (19, .goto 11, 3), (22, .aload_n 0, 1), (23, .getfield 12, 3), (26, .iload_n 2, 1), (27, .putfield 38, 3), (30, .return_, 1)]
theorem dX6_setTerm : ∀ q ∈ tbX6_setTerm, decode prog_8_method_3_code q.1 = .ok q.2 := by decide +kernel
set_option maxRecDepth 20000 in
theorem cX6_setTerm (l : Launch) (w : WX) (hL : Lay w) (t : Nat) (ht : Wat w t 6 0) (p1 : Int32) (p2 : Int32) (M : Mem) : Ct l w yX6_setTerm prog_8_method_3_code 3 (Option.none : Option FieldType) 0 0 evU emU [.ref t, .int p1, .int p2] M (FX6_setTerm t p1 p2 M) := by
  refine ct_of (by decide) (Nat.le_of_ble_eq_true rfl) (fun x hl hx hb hz => ?_)
  subst hl
  have hd : ∀ i, DAt (xc x).code (tbX6_setTerm[i]?) := fun i => by rw [hb]; exact dat_of dX6_setTerm i
  show C x w (Qn x w evU emU) 3 0 [(0, .ref t), (1, .int p1), (2, .int p2)] [] M (FX6_setTerm t p1 p2 M)
  unfold FX6_setTerm
  refine r_iload_n (pc' := 1) hx (hd 0) rfl 1 rfl rfl ?_
  refine r_iconst (pc' := 2) (v := 1) hx (hd 1) (by decide) rfl ?_
  refine r_jn1 30 (fun M1 => []) (fun M1 => []) (fun M1 => M1) (fun M1 => ?_) (fun j2 hj3 => ?_)
  · skip
    exact r_vret hx (hd 18) rfl rfl hz
  refine r_jn0 22 ([(0, .ref t), (2, .int p2)]) ([]) (M) (?_) (fun j4 hj5 => ?_)
  · skip
    refine r_aload_n (pc' := 23) hx (hd 14) rfl 0 rfl rfl ?_
    refine r_get (pc' := 26) (v := .ref (t + 1)) hx (hd 15) fl_6_12 ht rfl (by decide) rfl ?_
    have h6 := hL.1 _ _ _ ht 0 1 8 0 rfl
    refine r_iload_n (pc' := 27) hx (hd 16) rfl 1 rfl rfl ?_
    refine r_putI (pc' := 30) hx (hd 17) fp_6_38 h6 rfl (by decide) rfl (fun M7 => ?_)
    refine r_sub [] rfl ?_
    exact hj3 M7
  refine r_icmp_lt (tgt := 22) (pc' := 5) hx (hd 2) (by decide) (fun _ => ?_) rfl (fun _ => ?_)
  · skip
    refine r_sub [0, 2] rfl ?_
    exact hj5
  · skip
    refine r_iload_n (pc' := 6) hx (hd 3) rfl 1 rfl rfl ?_
    refine r_iconst (pc' := 7) (v := 4) hx (hd 4) (by decide) rfl ?_
    refine r_icmp_ge (tgt := 22) (pc' := 10) hx (hd 5) (by decide) (fun _ => ?_) rfl (fun _ => ?_)
    · skip
      refine r_sub [0, 2] rfl ?_
      exact hj5
    · skip
      refine r_aload_n (pc' := 11) hx (hd 6) rfl 0 rfl rfl ?_
      refine r_get (pc' := 14) (v := .ref (t + 8)) hx (hd 7) fl_6_31 ht rfl (by decide) rfl ?_
      have h8 := hL.1 _ _ _ ht 4 8 20 3 rfl
      refine r_iload_n (pc' := 15) hx (hd 8) rfl 1 rfl rfl ?_
      refine r_iconst (pc' := 16) (v := 1) hx (hd 9) (by decide) rfl ?_
      refine r_isub (pc' := 17) hx (hd 10) rfl ?_
      refine r_iload_n (pc' := 18) hx (hd 11) rfl 2 rfl rfl ?_
      refine r_gd (fun h10 => ?_)
      refine r_iast (pc' := 19) (k := ix (p1 - 1)) hx (hd 12) h8 h10 rfl rfl (fun M9 => ?_)
      refine r_goto (tgt := 30) hx (hd 13) (by decide) ?_
      refine r_sub [] rfl ?_
      exact hj3 M9
abbrev yX4_clear : MethodName := ({ cls := "CribbageRoom$History", name := "clear", desc := "()V" } : Jvm.MethodName)
def tbX4_clear : List (Nat × Instr × Nat) := [(0, .aload_n 0, 1), (1, .iconst 0, 1), (2, .putfield 22, 3), (5, .return_, 1)]
theorem dX4_clear : ∀ q ∈ tbX4_clear, decode prog_6_method_2_code q.1 = .ok q.2 := by decide +kernel
set_option maxRecDepth 20000 in
theorem cX4_clear (l : Launch) (w : WX) (hL : Lay w) (t : Nat) (ht : Wat w t 4 0) (M : Mem) : Ct l w yX4_clear prog_6_method_2_code 1 (Option.none : Option FieldType) 0 0 evU emU [.ref t] M (FX4_clear t M) := by
  refine ct_of (by decide) (Nat.le_of_ble_eq_true rfl) (fun x hl hx hb hz => ?_)
  subst hl
  have hd : ∀ i, DAt (xc x).code (tbX4_clear[i]?) := fun i => by rw [hb]; exact dat_of dX4_clear i
  show C x w (Qn x w evU emU) 1 0 [(0, .ref t)] [] M (FX4_clear t M)
  unfold FX4_clear
  refine r_aload_n (pc' := 1) hx (hd 0) rfl 0 rfl rfl ?_
  refine r_iconst (pc' := 2) (v := 0) hx (hd 1) (by decide) rfl ?_
  refine r_putI (pc' := 5) hx (hd 2) fp_4_22 ht rfl (by decide) rfl (fun M1 => ?_)
  exact r_vret hx (hd 3) rfl rfl hz
abbrev yX11_grant : MethodName := ({ cls := "CribbageRoom", name := "grant", desc := "(I)I" } : Jvm.MethodName)
def tbX11_grant : List (Nat × Instr × Nat) := [(0, .aload_n 0, 1), (1, .iconst 0, 1), (2, .putfield 202, 3), (5, .iload_n 1, 1), (6, .ireturn, 1)]
theorem dX11_grant : ∀ q ∈ tbX11_grant, decode prog_1_method_40_code q.1 = .ok q.2 := by decide +kernel
set_option maxRecDepth 20000 in
theorem cX11_grant (l : Launch) (w : WX) (hL : Lay w) (t : Nat) (ht : Wat w t 11 0) (p1 : Int32) (M : Mem) : Ct l w yX11_grant prog_1_method_40_code 2 (Option.some FieldType.int) 0 0 evIM emM [.ref t, .int p1] M (FX11_grant t p1 M) := by
  refine ct_of (by decide) (Nat.le_of_ble_eq_true rfl) (fun x hl hx hb hz => ?_)
  subst hl
  have hd : ∀ i, DAt (xc x).code (tbX11_grant[i]?) := fun i => by rw [hb]; exact dat_of dX11_grant i
  show C x w (Qn x w evIM emM) 2 0 [(0, .ref t), (1, .int p1)] [] M (FX11_grant t p1 M)
  unfold FX11_grant
  refine r_aload_n (pc' := 1) hx (hd 0) rfl 0 rfl rfl ?_
  refine r_iconst (pc' := 2) (v := 0) hx (hd 1) (by decide) rfl ?_
  refine r_putI (pc' := 5) hx (hd 2) fp_11_202 ht rfl (by decide) rfl (fun M1 => ?_)
  refine r_iload_n (pc' := 6) hx (hd 3) rfl 1 rfl rfl ?_
  exact r_iret hx (hd 4) rfl rfl hz
abbrev yX11_terms : MethodName := ({ cls := "CribbageRoom", name := "terms", desc := "(II)I" } : Jvm.MethodName)
def tbX11_terms : List (Nat × Instr × Nat) := [(0, .iload_n 1, 1), (1, .ifCond .lt 26, 3), (4, .iload_n 1, 1), (5, .iconst 4, 1), (6, .if_icmp .ge 21, 3), (9, .iload_n 2, 1), (10, .getstatic 205, 3), (13, .iload_n 1, 1), (14, .iaload, 1), (15, .if_icmp .lt 12, 3), (18, .iload_n 2, 1), (19, .getstatic 208, 3), (22, .iload_n 1, 1), (23, .iaload, 1), (24, .if_icmp .le 9, 3), (27, .aload_n 0, 1), (28, .iconst (-1), 1), (29, .invokevirtual 211, 3), (32, .ireturn, 1), (33, .aload_n 0, 1), (34, .getfield 12, 3), (37, .iload_n 1, 1), (38, .invokevirtual 199, 3), (41, .istore_n 3, 1), (42, .aload_n 0, 1), (43, .getfield 12, 3), (46, .iload_n 1, 1), (47, .iload_n 2, 1), (48, .invokevirtual 214, 3), (51, .aload_n 0, 1), (52, .getfield 23, 3), (55, .invokevirtual 218, 3), (58, .aload_n 0, 1), (59, .iload_n 3, 1), (60, .invokevirtual 221, 3), (63, .ireturn, 1)]
theorem dX11_terms : ∀ q ∈ tbX11_terms, decode prog_1_method_6_code q.1 = .ok q.2 := by decide +kernel
set_option maxRecDepth 20000 in
theorem cX11_terms (l : Launch) (w : WX) (hL : Lay w) (t : Nat) (ht : Wat w t 11 0) (p1 : Int32) (p2 : Int32) (M : Mem) : Ct l w yX11_terms prog_1_method_6_code 4 (Option.some FieldType.int) 1 22 evIM emM [.ref t, .int p1, .int p2] M (FX11_terms t p1 p2 M) := by
  refine ct_of (by decide) (Nat.le_of_ble_eq_true rfl) (fun x hl hx hb hz => ?_)
  subst hl
  have hd : ∀ i, DAt (xc x).code (tbX11_terms[i]?) := fun i => by rw [hb]; exact dat_of dX11_terms i
  show C x w (Qn x w evIM emM) 4 0 [(0, .ref t), (1, .int p1), (2, .int p2)] [] M (FX11_terms t p1 p2 M)
  unfold FX11_terms
  refine r_iload_n (pc' := 1) hx (hd 0) rfl 1 rfl rfl ?_
  refine r_jn0 27 ([(0, .ref t)]) ([]) (M) (?_) (fun j1 hj2 => ?_)
  · skip
    refine r_aload_n (pc' := 28) hx (hd 15) rfl 0 rfl rfl ?_
    refine r_iconst (pc' := 29) (v := (-1)) hx (hd 16) (by decide) rfl ?_
    refine r_callVI (pc' := 32) (As := [.int (-1)]) (rest := []) hx (hd 17) md_X11_refuse mi_X11_refuse ms_X11_refuse ml_11_211 (cX11_refuse (xl x) w hL t ht (-1) M) ht rfl (by decide) ⟨Nat.le_of_ble_eq_true rfl, Nat.le_of_ble_eq_true rfl⟩ rfl rfl (Nat.le_of_ble_eq_true rfl) (fun r4 => .int r4 :: []) (fun _ => rfl) rfl (fun r4 M3 => ?_)
    exact r_iret hx (hd 18) rfl rfl hz
  refine r_if_lt (tgt := 27) (pc' := 4) hx (hd 1) (by decide) (fun _ => ?_) rfl (fun _ => ?_)
  · skip
    refine r_sub [0] rfl ?_
    exact hj2
  · skip
    refine r_iload_n (pc' := 5) hx (hd 2) rfl 1 rfl rfl ?_
    refine r_iconst (pc' := 6) (v := 4) hx (hd 3) (by decide) rfl ?_
    refine r_icmp_ge (tgt := 27) (pc' := 9) hx (hd 4) (by decide) (fun _ => ?_) rfl (fun _ => ?_)
    · skip
      refine r_sub [0] rfl ?_
      exact hj2
    · skip
      refine r_iload_n (pc' := 10) hx (hd 5) rfl 2 rfl rfl ?_
      refine r_gets (pc' := 13) (i := 0) hx (hd 6) rfl gs_11_205 rfl ?_
      refine r_iload_n (pc' := 14) hx (hd 7) rfl 1 rfl rfl ?_
      refine r_gd (fun h5 => ?_)
      refine r_sald (pc' := 15) (i := 0) (k := ix p1) (v := (([0, 0, 0, 5] : List Int32).getD (ix p1) 0)) hx (hd 8) rfl h5 rfl rfl rfl ?_
      refine r_icmp_lt (tgt := 27) (pc' := 18) hx (hd 9) (by decide) (fun _ => ?_) rfl (fun _ => ?_)
      · skip
        refine r_sub [0] rfl ?_
        exact hj2
      · skip
        refine r_iload_n (pc' := 19) hx (hd 10) rfl 2 rfl rfl ?_
        refine r_gets (pc' := 22) (i := 1) hx (hd 11) rfl gs_11_208 rfl ?_
        refine r_iload_n (pc' := 23) hx (hd 12) rfl 1 rfl rfl ?_
        refine r_gd (fun h6 => ?_)
        refine r_sald (pc' := 24) (i := 1) (k := ix p1) (v := (([999, 10, 9, 31] : List Int32).getD (ix p1) 0)) hx (hd 13) rfl h6 rfl rfl rfl ?_
        refine r_icmp_le (tgt := 33) (pc' := 27) hx (hd 14) (by decide) (fun _ => ?_) rfl (fun _ => ?_)
        · skip
          refine r_aload_n (pc' := 34) hx (hd 19) rfl 0 rfl rfl ?_
          refine r_get (pc' := 37) (v := .ref (t + 1)) hx (hd 20) fl_11_12 ht rfl (by decide) rfl ?_
          have h7 := hL.1 _ _ _ ht 0 1 6 0 rfl
          refine r_iload_n (pc' := 38) hx (hd 21) rfl 1 rfl rfl ?_
          refine r_callV (pc' := 41) (As := [.int p1]) (rest := []) hx (hd 22) md_X6_term mi_X6_term ms_X6_term ml_11_199 (cX6_term (xl x) w hL (t + 1) h7 p1 M) h7 rfl (by decide) ⟨Nat.le_of_ble_eq_true rfl, Nat.le_of_ble_eq_true rfl⟩ rfl rfl (Nat.le_of_ble_eq_true rfl) (fun r8 => .int r8 :: []) (fun _ => M) (fun _ => ⟨rfl, rfl⟩) rfl (fun r8 _ => ?_)
          refine r_istore_n (pc' := 42) (L' := [(3, .int r8), (0, .ref t), (1, .int p1), (2, .int p2)]) hx (hd 23) rfl (by decide) rfl rfl ?_
          refine r_aload_n (pc' := 43) hx (hd 24) rfl 1 rfl rfl ?_
          refine r_get (pc' := 46) (v := .ref (t + 1)) hx (hd 25) fl_11_12 ht rfl (by decide) rfl ?_
          have h9 := hL.1 _ _ _ ht 0 1 6 0 rfl
          refine r_iload_n (pc' := 47) hx (hd 26) rfl 2 rfl rfl ?_
          refine r_iload_n (pc' := 48) hx (hd 27) rfl 3 rfl rfl ?_
          refine r_callVU (pc' := 51) (As := [.int p1, .int p2]) (rest := []) hx (hd 28) md_X6_setTerm mi_X6_setTerm ms_X6_setTerm ml_11_214 (cX6_setTerm (xl x) w hL (t + 1) h9 p1 p2 M) h9 rfl (by decide) ⟨Nat.le_of_ble_eq_true rfl, Nat.le_of_ble_eq_true rfl⟩ rfl rfl (Nat.le_of_ble_eq_true rfl) rfl (fun M10 => ?_)
          refine r_aload_n (pc' := 52) hx (hd 29) rfl 1 rfl rfl ?_
          refine r_get (pc' := 55) (v := .ref (t + 29)) hx (hd 30) fl_11_23 ht rfl (by decide) rfl ?_
          have h11 := hL.1 _ _ _ ht 2 29 4 0 rfl
          refine r_callVU (pc' := 58) (As := []) (rest := []) hx (hd 31) md_X4_clear mi_X4_clear ms_X4_clear ml_11_218 (cX4_clear (xl x) w hL (t + 29) h11 M10) h11 rfl (by decide) ⟨Nat.le_of_ble_eq_true rfl, Nat.le_of_ble_eq_true rfl⟩ rfl rfl (Nat.le_of_ble_eq_true rfl) rfl (fun M12 => ?_)
          refine r_aload_n (pc' := 59) hx (hd 32) rfl 1 rfl rfl ?_
          refine r_iload_n (pc' := 60) hx (hd 33) rfl 0 rfl rfl ?_
          refine r_callVI (pc' := 63) (As := [.int r8]) (rest := []) hx (hd 34) md_X11_grant mi_X11_grant ms_X11_grant ml_11_221 (cX11_grant (xl x) w hL t ht r8 M12) ht rfl (by decide) ⟨Nat.le_of_ble_eq_true rfl, Nat.le_of_ble_eq_true rfl⟩ rfl rfl (Nat.le_of_ble_eq_true rfl) (fun r14 => .int r14 :: []) (fun _ => rfl) rfl (fun r14 M13 => ?_)
          exact r_iret hx (hd 35) rfl rfl hz
        · skip
          refine r_sub [0] rfl ?_
          exact hj2
abbrev yX5_append : MethodName := ({ cls := "CribbageRoom$Reader", name := "append", desc := "(I)V" } : Jvm.MethodName)
def tbX5_append : List (Nat × Instr × Nat) := [(0, .bipush 24, 2), (2, .istore_n 2, 1), (3, .iload_n 2, 1), (4, .ifCond .lt 45, 3), (7, .aload_n 0, 1), (8, .getfield 26, 3), (11, .sipush 400, 3), (14, .if_icmp .ge 35, 3), (17, .aload_n 0, 1), (18, .getfield 9, 3), (21, .aload_n 0, 1), (22, .getfield 26, 3), (25, .iload_n 1, 1), (26, .iload_n 2, 1), (27, .ishr, 1), (28, .sipush 255, 3), (31, .iand, 1), (32, .iastore, 1), (33, .aload_n 0, 1), (34, .dup, 1), (35, .getfield 26, 3), (38, .iconst 1, 1), (39, .iadd, 1), (40, .putfield 26, 3), (43, .iinc 2 (-8), 3), (46, .goto (-43), 3), (49, .return_, 1)]
theorem dX5_append : ∀ q ∈ tbX5_append, decode prog_7_method_2_code q.1 = .ok q.2 := by decide +kernel
set_option maxRecDepth 20000 in
theorem cX5_append (l : Launch) (w : WX) (hL : Lay w) (t : Nat) (ht : Wat w t 5 0) (p1 : Int32) (M : Mem) : Ct l w yX5_append prog_7_method_2_code 3 (Option.none : Option FieldType) 0 0 evU emU [.ref t, .int p1] M (FX5_append t p1 M) := by
  refine ct_of (by decide) (Nat.le_of_ble_eq_true rfl) (fun x hl hx hb hz => ?_)
  subst hl
  have hd : ∀ i, DAt (xc x).code (tbX5_append[i]?) := fun i => by rw [hb]; exact dat_of dX5_append i
  show C x w (Qn x w evU emU) 3 0 [(0, .ref t), (1, .int p1)] [] M (FX5_append t p1 M)
  unfold FX5_append
  refine r_bipush (pc' := 2) (v := 24) hx (hd 0) (by decide) rfl ?_
  refine r_istore_n (pc' := 3) (L' := [(2, .int 24), (0, .ref t), (1, .int p1)]) hx (hd 1) rfl (by decide) rfl rfl ?_
  refine r_sub [1, 2, 0] rfl ?_
  refine r_wl2 (fun v1 M2 => [(0, .ref t), (1, .int p1), (2, .int v1)]) (fun v1 M2 => []) (fun v1 M2 => M2) (fun v1 M2 rec3 ih4 => ?_) fuel 24 M
  refine r_iload_n (pc' := 4) hx (hd 2) rfl 2 rfl rfl ?_
  refine r_jn0 49 ([]) ([]) (M2) (?_) (fun j5 hj6 => ?_)
  · skip
    exact r_vret hx (hd 26) rfl rfl hz
  refine r_if_lt (tgt := 49) (pc' := 7) hx (hd 3) (by decide) (fun _ => ?_) rfl (fun _ => ?_)
  · skip
    refine r_sub [] rfl ?_
    exact hj6
  · skip
    refine r_aload_n (pc' := 8) hx (hd 4) rfl 0 rfl rfl ?_
    refine r_get (pc' := 11) (v := .int (mI M2 t 2)) hx (hd 5) fl_5_26 ht rfl (by decide) rfl ?_
    refine r_sipush (pc' := 14) (v := 400) hx (hd 6) (by decide) rfl ?_
    refine r_icmp_ge (tgt := 49) (pc' := 17) hx (hd 7) (by decide) (fun _ => ?_) rfl (fun _ => ?_)
    · skip
      refine r_sub [] rfl ?_
      exact hj6
    · skip
      refine r_aload_n (pc' := 18) hx (hd 8) rfl 0 rfl rfl ?_
      refine r_get (pc' := 21) (v := .ref (t + 1)) hx (hd 9) fl_5_9 ht rfl (by decide) rfl ?_
      have h7 := hL.1 _ _ _ ht 0 1 20 400 rfl
      refine r_aload_n (pc' := 22) hx (hd 10) rfl 0 rfl rfl ?_
      refine r_get (pc' := 25) (v := .int (mI M2 t 2)) hx (hd 11) fl_5_26 ht rfl (by decide) rfl ?_
      refine r_iload_n (pc' := 26) hx (hd 12) rfl 1 rfl rfl ?_
      refine r_iload_n (pc' := 27) hx (hd 13) rfl 2 rfl rfl ?_
      refine r_ishr (pc' := 28) hx (hd 14) rfl ?_
      refine r_sipush (pc' := 31) (v := 255) hx (hd 15) (by decide) rfl ?_
      refine r_iand (pc' := 32) hx (hd 16) rfl ?_
      refine r_gd (fun h9 => ?_)
      refine r_iast (pc' := 33) (k := ix (mI M2 t 2)) hx (hd 17) h7 h9 rfl rfl (fun M8 => ?_)
      refine r_aload_n (pc' := 34) hx (hd 18) rfl 0 rfl rfl ?_
      refine r_dup (pc' := 35) hx (hd 19) rfl rfl ?_
      refine r_get (pc' := 38) (v := .int (mI M8 t 2)) hx (hd 20) fl_5_26 ht rfl (by decide) rfl ?_
      refine r_iconst (pc' := 39) (v := 1) hx (hd 21) (by decide) rfl ?_
      refine r_iadd (pc' := 40) hx (hd 22) rfl ?_
      refine r_putI (pc' := 43) hx (hd 23) fp_5_26 ht rfl (by decide) rfl (fun M10 => ?_)
      refine r_iinc (pc' := 46) (v := (-8)) hx (hd 24) 2 rfl (by decide) (by decide) (fun v11 => [(2, .int v11), (0, .ref t), (1, .int p1)]) (fun _ => rfl) rfl (fun v11 => ?_)
      refine r_goto (tgt := 3) hx (hd 25) (by decide) ?_
      refine r_sub [1, 2, 0] rfl ?_
      exact ih4 v11 M10
abbrev yX11_feed : MethodName := ({ cls := "CribbageRoom", name := "feed", desc := "(IIIII)I" } : Jvm.MethodName)
def tbX11_feed : List (Nat × Instr × Nat) := [(0, .aload_n 0, 1), (1, .getfield 43, 3), (4, .getfield 196, 3), (7, .bipush 20, 2), (9, .iadd, 1), (10, .sipush 400, 3), (13, .if_icmp .le 5, 3), (16, .iconst (-1), 1), (17, .ireturn, 1), (18, .aload_n 0, 1), (19, .getfield 43, 3), (22, .iload_n 1, 1), (23, .invokevirtual 224, 3), (26, .aload_n 0, 1), (27, .getfield 43, 3), (30, .iload_n 2, 1), (31, .invokevirtual 224, 3), (34, .aload_n 0, 1), (35, .getfield 43, 3), (38, .iload_n 3, 1), (39, .invokevirtual 224, 3), (42, .aload_n 0, 1), (43, .getfield 43, 3), (46, .iload 4, 2), (48, .invokevirtual 224, 3), (51, .aload_n 0, 1), (52, .getfield 43, 3), (55, .iload 5, 2), (57, .invokevirtual 224, 3), (60, .aload_n 0, 1), (61, .getfield 43, 3), (64, .getfield 196, 3), (67, .ireturn, 1)]
theorem dX11_feed : ∀ q ∈ tbX11_feed, decode prog_1_method_7_code q.1 = .ok q.2 := by decide +kernel
set_option maxRecDepth 20000 in
theorem cX11_feed (l : Launch) (w : WX) (hL : Lay w) (t : Nat) (ht : Wat w t 11 0) (p1 : Int32) (p2 : Int32) (p3 : Int32) (p4 : Int32) (p5 : Int32) (M : Mem) : Ct l w yX11_feed prog_1_method_7_code 6 (Option.some FieldType.int) 1 22 evIM emM [.ref t, .int p1, .int p2, .int p3, .int p4, .int p5] M (FX11_feed t p1 p2 p3 p4 p5 M) := by
  refine ct_of (by decide) (Nat.le_of_ble_eq_true rfl) (fun x hl hx hb hz => ?_)
  subst hl
  have hd : ∀ i, DAt (xc x).code (tbX11_feed[i]?) := fun i => by rw [hb]; exact dat_of dX11_feed i
  show C x w (Qn x w evIM emM) 6 0 [(0, .ref t), (1, .int p1), (2, .int p2), (3, .int p3), (4, .int p4), (5, .int p5)] [] M (FX11_feed t p1 p2 p3 p4 p5 M)
  unfold FX11_feed
  refine r_aload_n (pc' := 1) hx (hd 0) rfl 0 rfl rfl ?_
  refine r_get (pc' := 4) (v := .ref (t + 171)) hx (hd 1) fl_11_43 ht rfl (by decide) rfl ?_
  have h1 := hL.1 _ _ _ ht 6 171 5 0 rfl
  refine r_get (pc' := 7) (v := .int (mI M (t + 171) 2)) hx (hd 2) fl_11_196 h1 rfl (by decide) rfl ?_
  refine r_bipush (pc' := 9) (v := 20) hx (hd 3) (by decide) rfl ?_
  refine r_iadd (pc' := 10) hx (hd 4) rfl ?_
  refine r_sipush (pc' := 13) (v := 400) hx (hd 5) (by decide) rfl ?_
  refine r_icmp_le (tgt := 18) (pc' := 16) hx (hd 6) (by decide) (fun _ => ?_) rfl (fun _ => ?_)
  · skip
    refine r_aload_n (pc' := 19) hx (hd 9) rfl 0 rfl rfl ?_
    refine r_get (pc' := 22) (v := .ref (t + 171)) hx (hd 10) fl_11_43 ht rfl (by decide) rfl ?_
    have h2 := hL.1 _ _ _ ht 6 171 5 0 rfl
    refine r_iload_n (pc' := 23) hx (hd 11) rfl 1 rfl rfl ?_
    refine r_callVU (pc' := 26) (As := [.int p1]) (rest := []) hx (hd 12) md_X5_append mi_X5_append ms_X5_append ml_11_224 (cX5_append (xl x) w hL (t + 171) h2 p1 M) h2 rfl (by decide) ⟨Nat.le_of_ble_eq_true rfl, Nat.le_of_ble_eq_true rfl⟩ rfl rfl (Nat.le_of_ble_eq_true rfl) rfl (fun M3 => ?_)
    refine r_aload_n (pc' := 27) hx (hd 13) rfl 0 rfl rfl ?_
    refine r_get (pc' := 30) (v := .ref (t + 171)) hx (hd 14) fl_11_43 ht rfl (by decide) rfl ?_
    have h4 := hL.1 _ _ _ ht 6 171 5 0 rfl
    refine r_iload_n (pc' := 31) hx (hd 15) rfl 2 rfl rfl ?_
    refine r_callVU (pc' := 34) (As := [.int p2]) (rest := []) hx (hd 16) md_X5_append mi_X5_append ms_X5_append ml_11_224 (cX5_append (xl x) w hL (t + 171) h4 p2 M3) h4 rfl (by decide) ⟨Nat.le_of_ble_eq_true rfl, Nat.le_of_ble_eq_true rfl⟩ rfl rfl (Nat.le_of_ble_eq_true rfl) rfl (fun M5 => ?_)
    refine r_aload_n (pc' := 35) hx (hd 17) rfl 0 rfl rfl ?_
    refine r_get (pc' := 38) (v := .ref (t + 171)) hx (hd 18) fl_11_43 ht rfl (by decide) rfl ?_
    have h6 := hL.1 _ _ _ ht 6 171 5 0 rfl
    refine r_iload_n (pc' := 39) hx (hd 19) rfl 3 rfl rfl ?_
    refine r_callVU (pc' := 42) (As := [.int p3]) (rest := []) hx (hd 20) md_X5_append mi_X5_append ms_X5_append ml_11_224 (cX5_append (xl x) w hL (t + 171) h6 p3 M5) h6 rfl (by decide) ⟨Nat.le_of_ble_eq_true rfl, Nat.le_of_ble_eq_true rfl⟩ rfl rfl (Nat.le_of_ble_eq_true rfl) rfl (fun M7 => ?_)
    refine r_aload_n (pc' := 43) hx (hd 21) rfl 0 rfl rfl ?_
    refine r_get (pc' := 46) (v := .ref (t + 171)) hx (hd 22) fl_11_43 ht rfl (by decide) rfl ?_
    have h8 := hL.1 _ _ _ ht 6 171 5 0 rfl
    refine r_iload (pc' := 48) hx (hd 23) 4 rfl rfl ?_
    refine r_callVU (pc' := 51) (As := [.int p4]) (rest := []) hx (hd 24) md_X5_append mi_X5_append ms_X5_append ml_11_224 (cX5_append (xl x) w hL (t + 171) h8 p4 M7) h8 rfl (by decide) ⟨Nat.le_of_ble_eq_true rfl, Nat.le_of_ble_eq_true rfl⟩ rfl rfl (Nat.le_of_ble_eq_true rfl) rfl (fun M9 => ?_)
    refine r_aload_n (pc' := 52) hx (hd 25) rfl 0 rfl rfl ?_
    refine r_get (pc' := 55) (v := .ref (t + 171)) hx (hd 26) fl_11_43 ht rfl (by decide) rfl ?_
    have h10 := hL.1 _ _ _ ht 6 171 5 0 rfl
    refine r_iload (pc' := 57) hx (hd 27) 5 rfl rfl ?_
    refine r_callVU (pc' := 60) (As := [.int p5]) (rest := []) hx (hd 28) md_X5_append mi_X5_append ms_X5_append ml_11_224 (cX5_append (xl x) w hL (t + 171) h10 p5 M9) h10 rfl (by decide) ⟨Nat.le_of_ble_eq_true rfl, Nat.le_of_ble_eq_true rfl⟩ rfl rfl (Nat.le_of_ble_eq_true rfl) rfl (fun M11 => ?_)
    refine r_aload_n (pc' := 61) hx (hd 29) rfl 0 rfl rfl ?_
    refine r_get (pc' := 64) (v := .ref (t + 171)) hx (hd 30) fl_11_43 ht rfl (by decide) rfl ?_
    have h12 := hL.1 _ _ _ ht 6 171 5 0 rfl
    refine r_get (pc' := 67) (v := .int (mI M11 (t + 171) 2)) hx (hd 31) fl_11_196 h12 rfl (by decide) rfl ?_
    exact r_iret hx (hd 32) rfl rfl hz
  · skip
    refine r_iconst (pc' := 17) (v := (-1)) hx (hd 7) (by decide) rfl ?_
    exact r_iret hx (hd 8) rfl rfl hz
abbrev yX11_end : MethodName := ({ cls := "CribbageRoom", name := "end", desc := "(I)I" } : Jvm.MethodName)
def tbX11_end : List (Nat × Instr × Nat) := [(0, .iload_n 1, 1), (1, .ifCond .lt 14, 3), (4, .iload_n 1, 1), (5, .aload_n 0, 1), (6, .getfield 43, 3), (9, .getfield 196, 3), (12, .if_icmp .le 5, 3), (15, .iconst (-1), 1), (16, .ireturn, 1), (17, .aload_n 0, 1), (18, .getfield 43, 3), (21, .iload_n 1, 1), (22, .putfield 196, 3), (25, .iload_n 1, 1), (26, .ireturn, 1)]
theorem dX11_end : ∀ q ∈ tbX11_end, decode prog_1_method_8_code q.1 = .ok q.2 := by decide +kernel
set_option maxRecDepth 20000 in
theorem cX11_end (l : Launch) (w : WX) (hL : Lay w) (t : Nat) (ht : Wat w t 11 0) (p1 : Int32) (M : Mem) : Ct l w yX11_end prog_1_method_8_code 2 (Option.some FieldType.int) 0 0 evIM emM [.ref t, .int p1] M (FX11_end t p1 M) := by
  refine ct_of (by decide) (Nat.le_of_ble_eq_true rfl) (fun x hl hx hb hz => ?_)
  subst hl
  have hd : ∀ i, DAt (xc x).code (tbX11_end[i]?) := fun i => by rw [hb]; exact dat_of dX11_end i
  show C x w (Qn x w evIM emM) 2 0 [(0, .ref t), (1, .int p1)] [] M (FX11_end t p1 M)
  unfold FX11_end
  refine r_iload_n (pc' := 1) hx (hd 0) rfl 1 rfl rfl ?_
  refine r_jn0 15 ([]) ([]) (M) (?_) (fun j1 hj2 => ?_)
  · skip
    refine r_iconst (pc' := 16) (v := (-1)) hx (hd 7) (by decide) rfl ?_
    exact r_iret hx (hd 8) rfl rfl hz
  refine r_if_lt (tgt := 15) (pc' := 4) hx (hd 1) (by decide) (fun _ => ?_) rfl (fun _ => ?_)
  · skip
    refine r_sub [] rfl ?_
    exact hj2
  · skip
    refine r_iload_n (pc' := 5) hx (hd 2) rfl 1 rfl rfl ?_
    refine r_aload_n (pc' := 6) hx (hd 3) rfl 0 rfl rfl ?_
    refine r_get (pc' := 9) (v := .ref (t + 171)) hx (hd 4) fl_11_43 ht rfl (by decide) rfl ?_
    have h3 := hL.1 _ _ _ ht 6 171 5 0 rfl
    refine r_get (pc' := 12) (v := .int (mI M (t + 171) 2)) hx (hd 5) fl_11_196 h3 rfl (by decide) rfl ?_
    refine r_icmp_le (tgt := 17) (pc' := 15) hx (hd 6) (by decide) (fun _ => ?_) rfl (fun _ => ?_)
    · skip
      refine r_aload_n (pc' := 18) hx (hd 9) rfl 0 rfl rfl ?_
      refine r_get (pc' := 21) (v := .ref (t + 171)) hx (hd 10) fl_11_43 ht rfl (by decide) rfl ?_
      have h4 := hL.1 _ _ _ ht 6 171 5 0 rfl
      refine r_iload_n (pc' := 22) hx (hd 11) rfl 1 rfl rfl ?_
      refine r_putI (pc' := 25) hx (hd 12) fp_11_196 h4 rfl (by decide) rfl (fun M5 => ?_)
      refine r_iload_n (pc' := 26) hx (hd 13) rfl 1 rfl rfl ?_
      exact r_iret hx (hd 14) rfl rfl hz
    · skip
      refine r_sub [] rfl ?_
      exact hj2
abbrev yX11_row : MethodName := ({ cls := "CribbageRoom", name := "row", desc := "()I" } : Jvm.MethodName)
def tbX11_row : List (Nat × Instr × Nat) := [(0, .aload_n 0, 1), (1, .getfield 43, 3), (4, .getfield 196, 3), (7, .ifCond .ne 10, 3), (10, .aload_n 0, 1), (11, .bipush (-6), 2), (13, .invokevirtual 211, 3), (16, .ireturn, 1), (17, .lconst 0, 1), (18, .lstore_n 1, 1), (19, .iconst 0, 1), (20, .istore_n 3, 1), (21, .iconst 0, 1), (22, .istore 4, 2), (24, .iload 4, 2), (26, .aload_n 0, 1), (27, .getfield 43, 3), (30, .getfield 196, 3), (33, .if_icmp .ge 69, 3), (36, .iload 4, 2), (38, .sipush 400, 3), (41, .if_icmp .ge 61, 3), (44, .aload_n 0, 1), (45, .getfield 43, 3), (48, .getfield 228, 3), (51, .iload 4, 2), (53, .iaload, 1), (54, .istore 5, 2), (56, .iload 5, 2), (58, .invokestatic 106, 3), (61, .ifCond .eq 32, 3), (64, .lload_n 1, 1), (65, .iload 5, 2), (67, .invokestatic 128, 3), (70, .ifCond .ne 23, 3), (73, .lload_n 1, 1), (74, .invokestatic 148, 3), (77, .bipush 6, 2), (79, .if_icmp .ge 14, 3), (82, .lload_n 1, 1), (83, .iload 5, 2), (85, .invokestatic 231, 3), (88, .lor, 1), (89, .lstore_n 1, 1), (90, .goto 6, 3), (93, .iinc 3 1, 3), (96, .iinc 4 1, 3), (99, .goto (-75), 3), (102, .aload_n 0, 1), (103, .getfield 12, 3), (106, .lload_n 1, 1), (107, .putfield 138, 3), (110, .aload_n 0, 1), (111, .iload_n 3, 1), (112, .putfield 235, 3), (115, .aload_n 0, 1), (116, .getfield 43, 3), (119, .iconst 0, 1), (120, .putfield 196, 3), (123, .aload_n 0, 1), (124, .lload_n 1, 1), (125, .invokestatic 148, 3), (128, .invokevirtual 221, 3), (131, .ireturn, 1)]
theorem dX11_row : ∀ q ∈ tbX11_row, decode prog_1_method_9_code q.1 = .ok q.2 := by decide +kernel
set_option maxRecDepth 20000 in
theorem cX11_row (l : Launch) (w : WX) (hL : Lay w) (t : Nat) (ht : Wat w t 11 0) (M : Mem) : Ct l w yX11_row prog_1_method_9_code 6 (Option.some FieldType.int) 2 42 evIM emM [.ref t] M (FX11_row t M) := by
  refine ct_of (by decide) (Nat.le_of_ble_eq_true rfl) (fun x hl hx hb hz => ?_)
  subst hl
  have hd : ∀ i, DAt (xc x).code (tbX11_row[i]?) := fun i => by rw [hb]; exact dat_of dX11_row i
  show C x w (Qn x w evIM emM) 6 0 [(0, .ref t)] [] M (FX11_row t M)
  unfold FX11_row
  refine r_aload_n (pc' := 1) hx (hd 0) rfl 0 rfl rfl ?_
  refine r_get (pc' := 4) (v := .ref (t + 171)) hx (hd 1) fl_11_43 ht rfl (by decide) rfl ?_
  have h1 := hL.1 _ _ _ ht 6 171 5 0 rfl
  refine r_get (pc' := 7) (v := .int (mI M (t + 171) 2)) hx (hd 2) fl_11_196 h1 rfl (by decide) rfl ?_
  refine r_if_ne (tgt := 17) (pc' := 10) hx (hd 3) (by decide) (fun _ => ?_) rfl (fun _ => ?_)
  · skip
    refine r_lconst (pc' := 18) (v := 0) hx (hd 8) (by decide) rfl ?_
    refine r_lstore_n (pc' := 19) (L' := [(1, .long 0), (0, .ref t)]) hx (hd 9) rfl (by decide) rfl rfl ?_
    refine r_iconst (pc' := 20) (v := 0) hx (hd 10) (by decide) rfl ?_
    refine r_istore_n (pc' := 21) (L' := [(3, .int 0), (1, .long 0), (0, .ref t)]) hx (hd 11) rfl (by decide) rfl rfl ?_
    refine r_iconst (pc' := 22) (v := 0) hx (hd 12) (by decide) rfl ?_
    refine r_istore (pc' := 24) (L' := [(4, .int 0), (3, .int 0), (1, .long 0), (0, .ref t)]) hx (hd 13) (by decide) rfl rfl ?_
    refine r_sub [3, 2, 1, 0] rfl ?_
    refine r_wl3 (fun v2 v3 v4 => [(0, .ref t), (1, .long v2), (3, .int v3), (4, .int v4)]) (fun v2 v3 v4 => []) (fun v2 v3 v4 => M) (fun v2 v3 v4 rec5 ih6 => ?_) fuel 0 0 0
    refine r_iload (pc' := 26) hx (hd 14) 3 rfl rfl ?_
    refine r_aload_n (pc' := 27) hx (hd 15) rfl 0 rfl rfl ?_
    refine r_get (pc' := 30) (v := .ref (t + 171)) hx (hd 16) fl_11_43 ht rfl (by decide) rfl ?_
    have h7 := hL.1 _ _ _ ht 6 171 5 0 rfl
    refine r_get (pc' := 33) (v := .int (mI M (t + 171) 2)) hx (hd 17) fl_11_196 h7 rfl (by decide) rfl ?_
    refine r_jn0 102 ([(0, .ref t), (1, .long v2), (3, .int v3)]) ([]) (M) (?_) (fun j8 hj9 => ?_)
    · skip
      refine r_aload_n (pc' := 103) hx (hd 48) rfl 0 rfl rfl ?_
      refine r_get (pc' := 106) (v := .ref (t + 1)) hx (hd 49) fl_11_12 ht rfl (by decide) rfl ?_
      have h10 := hL.1 _ _ _ ht 0 1 6 0 rfl
      refine r_lload_n (pc' := 107) hx (hd 50) rfl 1 rfl rfl ?_
      refine r_putJ (pc' := 110) hx (hd 51) fp_11_138 h10 rfl (by decide) rfl (fun M11 => ?_)
      refine r_aload_n (pc' := 111) hx (hd 52) rfl 0 rfl rfl ?_
      refine r_iload_n (pc' := 112) hx (hd 53) rfl 2 rfl rfl ?_
      refine r_putI (pc' := 115) hx (hd 54) fp_11_235 ht rfl (by decide) rfl (fun M12 => ?_)
      refine r_aload_n (pc' := 116) hx (hd 55) rfl 0 rfl rfl ?_
      refine r_get (pc' := 119) (v := .ref (t + 171)) hx (hd 56) fl_11_43 ht rfl (by decide) rfl ?_
      have h13 := hL.1 _ _ _ ht 6 171 5 0 rfl
      refine r_iconst (pc' := 120) (v := 0) hx (hd 57) (by decide) rfl ?_
      refine r_putI (pc' := 123) hx (hd 58) fp_11_196 h13 rfl (by decide) rfl (fun M14 => ?_)
      refine r_aload_n (pc' := 124) hx (hd 59) rfl 0 rfl rfl ?_
      refine r_lload_n (pc' := 125) hx (hd 60) rfl 1 rfl rfl ?_
      refine r_callS (pc' := 128) (As := [.long v2]) (rest := [.ref t]) hx (hd 61) md_J_Long_bitCount mst_J_Long_bitCount ml_11_148 (cJ_Long_bitCount (xl x) w hL v2 M14) ⟨Nat.le_of_ble_eq_true rfl, Nat.le_of_ble_eq_true rfl⟩ rfl rfl (Nat.le_of_ble_eq_true rfl) (fun r15 => .int r15 :: [.ref t]) (fun _ => M14) (fun _ => ⟨rfl, rfl⟩) rfl (fun r15 _ => ?_)
      refine r_callVI (pc' := 131) (As := [.int r15]) (rest := []) hx (hd 62) md_X11_grant mi_X11_grant ms_X11_grant ml_11_221 (cX11_grant (xl x) w hL t ht r15 M14) ht rfl (by decide) ⟨Nat.le_of_ble_eq_true rfl, Nat.le_of_ble_eq_true rfl⟩ rfl rfl (Nat.le_of_ble_eq_true rfl) (fun r17 => .int r17 :: []) (fun _ => rfl) rfl (fun r17 M16 => ?_)
      exact r_iret hx (hd 63) rfl rfl hz
    refine r_icmp_ge (tgt := 102) (pc' := 36) hx (hd 18) (by decide) (fun _ => ?_) rfl (fun _ => ?_)
    · skip
      refine r_sub [0, 1, 2] rfl ?_
      exact hj9
    · skip
      refine r_iload (pc' := 38) hx (hd 19) 3 rfl rfl ?_
      refine r_sipush (pc' := 41) (v := 400) hx (hd 20) (by decide) rfl ?_
      refine r_icmp_ge (tgt := 102) (pc' := 44) hx (hd 21) (by decide) (fun _ => ?_) rfl (fun _ => ?_)
      · skip
        refine r_sub [0, 1, 2] rfl ?_
        exact hj9
      · skip
        refine r_aload_n (pc' := 45) hx (hd 22) rfl 0 rfl rfl ?_
        refine r_get (pc' := 48) (v := .ref (t + 171)) hx (hd 23) fl_11_43 ht rfl (by decide) rfl ?_
        have h18 := hL.1 _ _ _ ht 6 171 5 0 rfl
        refine r_get (pc' := 51) (v := .ref ((t + 171) + 1)) hx (hd 24) fl_11_228 h18 rfl (by decide) rfl ?_
        have h19 := hL.1 _ _ _ h18 0 1 20 400 rfl
        refine r_iload (pc' := 53) hx (hd 25) 3 rfl rfl ?_
        refine r_gd (fun h20 => ?_)
        refine r_iald (pc' := 54) (k := ix v4) hx (hd 26) h19 h20 rfl rfl ?_
        refine r_nmI (fun v21 => ?_)
        refine r_istore (pc' := 56) (L' := [(5, .int v21), (0, .ref t), (1, .long v2), (3, .int v3), (4, .int v4)]) hx (hd 27) (by decide) rfl rfl ?_
        refine r_iload (pc' := 58) hx (hd 28) 0 rfl rfl ?_
        refine r_callS (pc' := 61) (As := [.int v21]) (rest := []) hx (hd 29) md_X11_isCard mst_X11_isCard ml_11_106 (cX11_isCard (xl x) w hL v21 M) ⟨Nat.le_of_ble_eq_true rfl, Nat.le_of_ble_eq_true rfl⟩ rfl rfl (Nat.le_of_ble_eq_true rfl) (fun r22 => .int r22 :: []) (fun _ => M) (fun _ => ⟨rfl, rfl⟩) rfl (fun r22 _ => ?_)
        refine r_jn2 96 (fun v23 v24 => [(0, .ref t), (1, .long v23), (3, .int v24), (4, .int v4)]) (fun v23 v24 => []) (fun v23 v24 => M) (fun v23 v24 => ?_) (fun j25 hj26 => ?_)
        · skip
          refine r_iinc (pc' := 99) (v := 1) hx (hd 46) 3 rfl (by decide) (by decide) (fun v27 => [(4, .int v27), (0, .ref t), (1, .long v23), (3, .int v24)]) (fun _ => rfl) rfl (fun v27 => ?_)
          refine r_goto (tgt := 24) hx (hd 47) (by decide) ?_
          refine r_sub [1, 2, 3, 0] rfl ?_
          exact ih6 v23 v24 v27
        refine r_jn0 93 ([(0, .ref t), (1, .long v2), (3, .int v3), (4, .int v4)]) ([]) (M) (?_) (fun j28 hj29 => ?_)
        · skip
          refine r_iinc (pc' := 96) (v := 1) hx (hd 45) 2 rfl (by decide) (by decide) (fun v30 => [(3, .int v30), (0, .ref t), (1, .long v2), (4, .int v4)]) (fun _ => rfl) rfl (fun v30 => ?_)
          refine r_sub [1, 2, 0, 3] rfl ?_
          exact hj26 v2 v30
        refine r_if_eq (tgt := 93) (pc' := 64) hx (hd 30) (by decide) (fun _ => ?_) rfl (fun _ => ?_)
        · skip
          refine r_sub [1, 2, 3, 4] rfl ?_
          exact hj29
        · skip
          refine r_lload_n (pc' := 65) hx (hd 31) rfl 2 rfl rfl ?_
          refine r_iload (pc' := 67) hx (hd 32) 0 rfl rfl ?_
          refine r_callS (pc' := 70) (As := [.long v2, .int v21]) (rest := []) hx (hd 33) md_X11_has mst_X11_has ml_11_128 (cX11_has (xl x) w hL v2 v21 M) ⟨Nat.le_of_ble_eq_true rfl, Nat.le_of_ble_eq_true rfl⟩ rfl rfl (Nat.le_of_ble_eq_true rfl) (fun r31 => .int r31 :: []) (fun _ => M) (fun _ => ⟨rfl, rfl⟩) rfl (fun r31 _ => ?_)
          refine r_if_ne (tgt := 93) (pc' := 73) hx (hd 34) (by decide) (fun _ => ?_) rfl (fun _ => ?_)
          · skip
            refine r_sub [1, 2, 3, 4] rfl ?_
            exact hj29
          · skip
            refine r_lload_n (pc' := 74) hx (hd 35) rfl 2 rfl rfl ?_
            refine r_callS (pc' := 77) (As := [.long v2]) (rest := []) hx (hd 36) md_J_Long_bitCount mst_J_Long_bitCount ml_11_148 (cJ_Long_bitCount (xl x) w hL v2 M) ⟨Nat.le_of_ble_eq_true rfl, Nat.le_of_ble_eq_true rfl⟩ rfl rfl (Nat.le_of_ble_eq_true rfl) (fun r32 => .int r32 :: []) (fun _ => M) (fun _ => ⟨rfl, rfl⟩) rfl (fun r32 _ => ?_)
            refine r_bipush (pc' := 79) (v := 6) hx (hd 37) (by decide) rfl ?_
            refine r_icmp_ge (tgt := 93) (pc' := 82) hx (hd 38) (by decide) (fun _ => ?_) rfl (fun _ => ?_)
            · skip
              refine r_sub [1, 2, 3, 4] rfl ?_
              exact hj29
            · skip
              refine r_lload_n (pc' := 83) hx (hd 39) rfl 2 rfl rfl ?_
              refine r_iload (pc' := 85) hx (hd 40) 0 rfl rfl ?_
              refine r_callS (pc' := 88) (As := [.int v21]) (rest := [.long v2]) hx (hd 41) md_X11_bit mst_X11_bit ml_11_231 (cX11_bit (xl x) w hL v21 M) ⟨Nat.le_of_ble_eq_true rfl, Nat.le_of_ble_eq_true rfl⟩ rfl rfl (Nat.le_of_ble_eq_true rfl) (fun r33 => .long r33 :: [.long v2]) (fun _ => M) (fun _ => ⟨rfl, rfl⟩) rfl (fun r33 _ => ?_)
              refine r_lor (pc' := 89) hx (hd 42) rfl ?_
              refine r_nmJ (fun v34 => ?_)
              refine r_lstore_n (pc' := 90) (L' := [(1, .long v34), (5, .int v21), (0, .ref t), (3, .int v3), (4, .int v4)]) hx (hd 43) rfl (by decide) rfl rfl ?_
              refine r_goto (tgt := 96) hx (hd 44) (by decide) ?_
              refine r_sub [2, 0, 3, 4] rfl ?_
              exact hj26 v34 v3
  · skip
    refine r_aload_n (pc' := 11) hx (hd 4) rfl 0 rfl rfl ?_
    refine r_bipush (pc' := 13) (v := (-6)) hx (hd 5) (by decide) rfl ?_
    refine r_callVI (pc' := 16) (As := [.int (-6)]) (rest := []) hx (hd 6) md_X11_refuse mi_X11_refuse ms_X11_refuse ml_11_211 (cX11_refuse (xl x) w hL t ht (-6) M) ht rfl (by decide) ⟨Nat.le_of_ble_eq_true rfl, Nat.le_of_ble_eq_true rfl⟩ rfl rfl (Nat.le_of_ble_eq_true rfl) (fun r36 => .int r36 :: []) (fun _ => rfl) rfl (fun r36 M35 => ?_)
    exact r_iret hx (hd 7) rfl rfl hz
abbrev yX11_jokers : MethodName := ({ cls := "CribbageRoom", name := "jokers", desc := "()I" } : Jvm.MethodName)
def tbX11_jokers : List (Nat × Instr × Nat) := [(0, .aload_n 0, 1), (1, .getfield 235, 3), (4, .ireturn, 1)]
theorem dX11_jokers : ∀ q ∈ tbX11_jokers, decode prog_1_method_10_code q.1 = .ok q.2 := by decide +kernel
set_option maxRecDepth 20000 in
theorem cX11_jokers (l : Launch) (w : WX) (hL : Lay w) (t : Nat) (ht : Wat w t 11 0) (M : Mem) : Ct l w yX11_jokers prog_1_method_10_code 1 (Option.some FieldType.int) 0 0 evI (emC M) [.ref t] M (FX11_jokers t M) := by
  refine ct_of (by decide) (Nat.le_of_ble_eq_true rfl) (fun x hl hx hb hz => ?_)
  subst hl
  have hd : ∀ i, DAt (xc x).code (tbX11_jokers[i]?) := fun i => by rw [hb]; exact dat_of dX11_jokers i
  show C x w (Qn x w evI (emC M)) 1 0 [(0, .ref t)] [] M (FX11_jokers t M)
  unfold FX11_jokers
  refine r_aload_n (pc' := 1) hx (hd 0) rfl 0 rfl rfl ?_
  refine r_get (pc' := 4) (v := .int (mI M t 17)) hx (hd 1) fl_11_235 ht rfl (by decide) rfl ?_
  exact r_iret hx (hd 2) rfl rfl hz
abbrev yX5_isLetter : MethodName := ({ cls := "CribbageRoom$Reader", name := "isLetter", desc := "(I)Z" } : Jvm.MethodName)
def tbX5_isLetter : List (Nat × Instr × Nat) := [(0, .iload_n 0, 1), (1, .bipush 97, 2), (3, .if_icmp .lt 13, 3), (6, .iload_n 0, 1), (7, .bipush 122, 2), (9, .if_icmp .gt 7, 3), (12, .iconst 1, 1), (13, .goto 4, 3), (16, .iconst 0, 1), (17, .ireturn, 1)]
theorem dX5_isLetter : ∀ q ∈ tbX5_isLetter, decode prog_7_method_18_code q.1 = .ok q.2 := by decide +kernel
set_option maxRecDepth 20000 in
theorem cX5_isLetter (l : Launch) (w : WX) (hL : Lay w) (p0 : Int32) (M : Mem) : Ct l w yX5_isLetter prog_7_method_18_code 1 (Option.some FieldType.boolean) 0 0 evI (emC M) [.int p0] M (FX5_isLetter p0) := by
  refine ct_of (by decide) (Nat.le_of_ble_eq_true rfl) (fun x hl hx hb hz => ?_)
  subst hl
  have hd : ∀ i, DAt (xc x).code (tbX5_isLetter[i]?) := fun i => by rw [hb]; exact dat_of dX5_isLetter i
  show C x w (Qn x w evI (emC M)) 1 0 [(0, .int p0)] [] M (FX5_isLetter p0)
  unfold FX5_isLetter
  refine r_iload_n (pc' := 1) hx (hd 0) rfl 0 rfl rfl ?_
  refine r_bipush (pc' := 3) (v := 97) hx (hd 1) (by decide) rfl ?_
  refine r_jn1 17 (fun v1 => []) (fun v1 => [.int v1]) (fun v1 => M) (fun v1 => ?_) (fun j2 hj3 => ?_)
  · skip
    refine r_gd (fun h4 => ?_)
    exact r_zret hx (hd 9) h4 rfl rfl hz
  refine r_jn0 16 ([]) ([]) (M) (?_) (fun j5 hj6 => ?_)
  · skip
    refine r_iconst (pc' := 17) (v := 0) hx (hd 8) (by decide) rfl ?_
    exact hj3 0
  refine r_icmp_lt (tgt := 16) (pc' := 6) hx (hd 2) (by decide) (fun _ => ?_) rfl (fun _ => ?_)
  · skip
    refine r_sub [] rfl ?_
    exact hj6
  · skip
    refine r_iload_n (pc' := 7) hx (hd 3) rfl 0 rfl rfl ?_
    refine r_bipush (pc' := 9) (v := 122) hx (hd 4) (by decide) rfl ?_
    refine r_icmp_gt (tgt := 16) (pc' := 12) hx (hd 5) (by decide) (fun _ => ?_) rfl (fun _ => ?_)
    · skip
      refine r_sub [] rfl ?_
      exact hj6
    · skip
      refine r_iconst (pc' := 13) (v := 1) hx (hd 6) (by decide) rfl ?_
      refine r_goto (tgt := 17) hx (hd 7) (by decide) ?_
      refine r_sub [] rfl ?_
      exact hj3 1
abbrev yX5_wordAt : MethodName := ({ cls := "CribbageRoom$Reader", name := "wordAt", desc := "()I" } : Jvm.MethodName)
def tbX5_wordAt : List (Nat × Instr × Nat) := [(0, .aload_n 0, 1), (1, .getfield 36, 3), (4, .aload_n 0, 1), (5, .getfield 60, 3), (8, .isub, 1), (9, .istore_n 1, 1), (10, .iconst 0, 1), (11, .istore_n 2, 1), (12, .iconst 0, 1), (13, .istore_n 3, 1), (14, .iconst 0, 1), (15, .istore 4, 2), (17, .iload 4, 2), (19, .ldc 130, 2), (21, .invokevirtual 132, 3), (24, .if_icmp .ge 73, 3), (27, .ldc 130, 2), (29, .iload 4, 2), (31, .invokevirtual 136, 3), (34, .istore 5, 2), (36, .iload 5, 2), (38, .bipush 32, 2), (40, .if_icmp .ne 18, 3), (43, .iload_n 3, 1), (44, .iload_n 1, 1), (45, .if_icmp .ne 5, 3), (48, .iload_n 2, 1), (49, .ireturn, 1), (50, .iinc 2 1, 3), (53, .iconst 0, 1), (54, .istore_n 3, 1), (55, .goto 36, 3), (58, .iload_n 3, 1), (59, .ifCond .lt 30, 3), (62, .iload_n 3, 1), (63, .iload_n 1, 1), (64, .if_icmp .ge 25, 3), (67, .aload_n 0, 1), (68, .getfield 9, 3), (71, .aload_n 0, 1), (72, .getfield 60, 3), (75, .iload_n 3, 1), (76, .iadd, 1), (77, .iaload, 1), (78, .iload 5, 2), (80, .if_icmp .ne 9, 3), (83, .iload_n 3, 1), (84, .iconst 1, 1), (85, .iadd, 1), (86, .goto 4, 3), (89, .iconst (-1), 1), (90, .istore_n 3, 1), (91, .iinc 4 1, 3), (94, .goto (-77), 3), (97, .iconst (-1), 1), (98, .ireturn, 1)]
theorem dX5_wordAt : ∀ q ∈ tbX5_wordAt, decode prog_7_method_21_code q.1 = .ok q.2 := by decide +kernel
set_option maxRecDepth 20000 in
theorem cX5_wordAt (l : Launch) (w : WX) (hL : Lay w) (t : Nat) (ht : Wat w t 5 0) (M : Mem) : Ct l w yX5_wordAt prog_7_method_21_code 6 (Option.some FieldType.int) 6 160 evI (emC M) [.ref t] M (FX5_wordAt t M) := by
  refine ct_of (by decide) (Nat.le_of_ble_eq_true rfl) (fun x hl hx hb hz => ?_)
  subst hl
  have hd : ∀ i, DAt (xc x).code (tbX5_wordAt[i]?) := fun i => by rw [hb]; exact dat_of dX5_wordAt i
  show C x w (Qn x w evI (emC M)) 6 0 [(0, .ref t)] [] M (FX5_wordAt t M)
  unfold FX5_wordAt
  refine r_aload_n (pc' := 1) hx (hd 0) rfl 0 rfl rfl ?_
  refine r_get (pc' := 4) (v := .int (mI M t 7)) hx (hd 1) fl_5_36 ht rfl (by decide) rfl ?_
  refine r_aload_n (pc' := 5) hx (hd 2) rfl 0 rfl rfl ?_
  refine r_get (pc' := 8) (v := .int (mI M t 6)) hx (hd 3) fl_5_60 ht rfl (by decide) rfl ?_
  refine r_isub (pc' := 9) hx (hd 4) rfl ?_
  refine r_nmI (fun v1 => ?_)
  refine r_istore_n (pc' := 10) (L' := [(1, .int v1), (0, .ref t)]) hx (hd 5) rfl (by decide) rfl rfl ?_
  refine r_iconst (pc' := 11) (v := 0) hx (hd 6) (by decide) rfl ?_
  refine r_istore_n (pc' := 12) (L' := [(2, .int 0), (1, .int v1), (0, .ref t)]) hx (hd 7) rfl (by decide) rfl rfl ?_
  refine r_iconst (pc' := 13) (v := 0) hx (hd 8) (by decide) rfl ?_
  refine r_istore_n (pc' := 14) (L' := [(3, .int 0), (2, .int 0), (1, .int v1), (0, .ref t)]) hx (hd 9) rfl (by decide) rfl rfl ?_
  refine r_iconst (pc' := 15) (v := 0) hx (hd 10) (by decide) rfl ?_
  refine r_istore (pc' := 17) (L' := [(4, .int 0), (3, .int 0), (2, .int 0), (1, .int v1), (0, .ref t)]) hx (hd 11) (by decide) rfl rfl ?_
  refine r_sub [4, 3, 2, 1, 0] rfl ?_
  refine r_wl3 (fun v2 v3 v4 => [(0, .ref t), (1, .int v1), (2, .int v2), (3, .int v3), (4, .int v4)]) (fun v2 v3 v4 => []) (fun v2 v3 v4 => M) (fun v2 v3 v4 rec5 ih6 => ?_) fuel 0 0 0
  refine r_iload (pc' := 19) hx (hd 12) 4 rfl rfl ?_
  refine r_ldcS (pc' := 21) hx (hd 13) rfl ?_
  refine r_strLen (pc' := 24) hx (hd 14) ml_5_132 ⟨Nat.le_of_ble_eq_true rfl, Nat.le_of_ble_eq_true rfl⟩ (Nat.le_of_ble_eq_true rfl) rfl ?_
  refine r_icmp_ge (tgt := 97) (pc' := 27) hx (hd 15) (by decide) (fun _ => ?_) rfl (fun _ => ?_)
  · skip
    refine r_iconst (pc' := 98) (v := (-1)) hx (hd 54) (by decide) rfl ?_
    exact r_iret hx (hd 55) rfl rfl hz
  · skip
    refine r_ldcS (pc' := 29) hx (hd 16) rfl ?_
    refine r_iload (pc' := 31) hx (hd 17) 4 rfl rfl ?_
    refine r_gd (fun h7 => ?_)
    refine r_strAt (pc' := 34) hx (hd 18) ml_5_136 h7 ⟨Nat.le_of_ble_eq_true rfl, Nat.le_of_ble_eq_true rfl⟩ (Nat.le_of_ble_eq_true rfl) rfl ?_
    refine r_nmI (fun v8 => ?_)
    refine r_istore (pc' := 36) (L' := [(5, .int v8), (0, .ref t), (1, .int v1), (2, .int v2), (3, .int v3), (4, .int v4)]) hx (hd 19) (by decide) rfl rfl ?_
    refine r_iload (pc' := 38) hx (hd 20) 0 rfl rfl ?_
    refine r_bipush (pc' := 40) (v := 32) hx (hd 21) (by decide) rfl ?_
    refine r_jn2 91 (fun v9 v10 => [(0, .ref t), (1, .int v1), (2, .int v9), (3, .int v10), (4, .int v4)]) (fun v9 v10 => []) (fun v9 v10 => M) (fun v9 v10 => ?_) (fun j11 hj12 => ?_)
    · skip
      refine r_iinc (pc' := 94) (v := 1) hx (hd 52) 4 rfl (by decide) (by decide) (fun v13 => [(4, .int v13), (0, .ref t), (1, .int v1), (2, .int v9), (3, .int v10)]) (fun _ => rfl) rfl (fun v13 => ?_)
      refine r_goto (tgt := 17) hx (hd 53) (by decide) ?_
      refine r_sub [1, 2, 3, 4, 0] rfl ?_
      exact ih6 v9 v10 v13
    refine r_icmp_ne (tgt := 58) (pc' := 43) hx (hd 22) (by decide) (fun _ => ?_) rfl (fun _ => ?_)
    · skip
      refine r_iload_n (pc' := 59) hx (hd 32) rfl 4 rfl rfl ?_
      refine r_jn1 90 (fun v14 => [(0, .ref t), (1, .int v1), (2, .int v2), (4, .int v4)]) (fun v14 => [.int v14]) (fun v14 => M) (fun v14 => ?_) (fun j15 hj16 => ?_)
      · skip
        refine r_istore_n (pc' := 91) (L' := [(3, .int v14), (0, .ref t), (1, .int v1), (2, .int v2), (4, .int v4)]) hx (hd 51) rfl (by decide) rfl rfl ?_
        refine r_sub [1, 2, 3, 0, 4] rfl ?_
        exact hj12 v2 v14
      refine r_jn0 89 ([(0, .ref t), (1, .int v1), (2, .int v2), (4, .int v4)]) ([]) (M) (?_) (fun j17 hj18 => ?_)
      · skip
        refine r_iconst (pc' := 90) (v := (-1)) hx (hd 50) (by decide) rfl ?_
        exact hj16 (-1)
      refine r_if_lt (tgt := 89) (pc' := 62) hx (hd 33) (by decide) (fun _ => ?_) rfl (fun _ => ?_)
      · skip
        refine r_sub [1, 2, 3, 5] rfl ?_
        exact hj18
      · skip
        refine r_iload_n (pc' := 63) hx (hd 34) rfl 4 rfl rfl ?_
        refine r_iload_n (pc' := 64) hx (hd 35) rfl 2 rfl rfl ?_
        refine r_icmp_ge (tgt := 89) (pc' := 67) hx (hd 36) (by decide) (fun _ => ?_) rfl (fun _ => ?_)
        · skip
          refine r_sub [1, 2, 3, 5] rfl ?_
          exact hj18
        · skip
          refine r_aload_n (pc' := 68) hx (hd 37) rfl 1 rfl rfl ?_
          refine r_get (pc' := 71) (v := .ref (t + 1)) hx (hd 38) fl_5_9 ht rfl (by decide) rfl ?_
          have h19 := hL.1 _ _ _ ht 0 1 20 400 rfl
          refine r_aload_n (pc' := 72) hx (hd 39) rfl 1 rfl rfl ?_
          refine r_get (pc' := 75) (v := .int (mI M t 6)) hx (hd 40) fl_5_60 ht rfl (by decide) rfl ?_
          refine r_iload_n (pc' := 76) hx (hd 41) rfl 4 rfl rfl ?_
          refine r_iadd (pc' := 77) hx (hd 42) rfl ?_
          refine r_gd (fun h20 => ?_)
          refine r_iald (pc' := 78) (k := ix ((mI M t 6) + v3)) hx (hd 43) h19 h20 rfl rfl ?_
          refine r_iload (pc' := 80) hx (hd 44) 0 rfl rfl ?_
          refine r_icmp_ne (tgt := 89) (pc' := 83) hx (hd 45) (by decide) (fun _ => ?_) rfl (fun _ => ?_)
          · skip
            refine r_sub [1, 2, 3, 5] rfl ?_
            exact hj18
          · skip
            refine r_iload_n (pc' := 84) hx (hd 46) rfl 4 rfl rfl ?_
            refine r_iconst (pc' := 85) (v := 1) hx (hd 47) (by decide) rfl ?_
            refine r_iadd (pc' := 86) hx (hd 48) rfl ?_
            refine r_goto (tgt := 90) hx (hd 49) (by decide) ?_
            refine r_sub [1, 2, 3, 5] rfl ?_
            exact hj16 (v3 + 1)
    · skip
      refine r_iload_n (pc' := 44) hx (hd 23) rfl 4 rfl rfl ?_
      refine r_iload_n (pc' := 45) hx (hd 24) rfl 2 rfl rfl ?_
      refine r_icmp_ne (tgt := 50) (pc' := 48) hx (hd 25) (by decide) (fun _ => ?_) rfl (fun _ => ?_)
      · skip
        refine r_iinc (pc' := 53) (v := 1) hx (hd 28) 3 rfl (by decide) (by decide) (fun v21 => [(2, .int v21), (5, .int v8), (0, .ref t), (1, .int v1), (3, .int v3), (4, .int v4)]) (fun _ => rfl) rfl (fun v21 => ?_)
        refine r_iconst (pc' := 54) (v := 0) hx (hd 29) (by decide) rfl ?_
        refine r_istore_n (pc' := 55) (L' := [(3, .int 0), (2, .int v21), (5, .int v8), (0, .ref t), (1, .int v1), (4, .int v4)]) hx (hd 30) rfl (by decide) rfl rfl ?_
        refine r_goto (tgt := 91) hx (hd 31) (by decide) ?_
        refine r_sub [3, 4, 1, 0, 5] rfl ?_
        exact hj12 v21 0
      · skip
        refine r_iload_n (pc' := 49) hx (hd 26) rfl 3 rfl rfl ?_
        exact r_iret hx (hd 27) rfl rfl hz
abbrev yX5_isDigit : MethodName := ({ cls := "CribbageRoom$Reader", name := "isDigit", desc := "(I)Z" } : Jvm.MethodName)
def tbX5_isDigit : List (Nat × Instr × Nat) := [(0, .iload_n 0, 1), (1, .bipush 48, 2), (3, .if_icmp .lt 13, 3), (6, .iload_n 0, 1), (7, .bipush 57, 2), (9, .if_icmp .gt 7, 3), (12, .iconst 1, 1), (13, .goto 4, 3), (16, .iconst 0, 1), (17, .ireturn, 1)]
theorem dX5_isDigit : ∀ q ∈ tbX5_isDigit, decode prog_7_method_19_code q.1 = .ok q.2 := by decide +kernel
set_option maxRecDepth 20000 in
theorem cX5_isDigit (l : Launch) (w : WX) (hL : Lay w) (p0 : Int32) (M : Mem) : Ct l w yX5_isDigit prog_7_method_19_code 1 (Option.some FieldType.boolean) 0 0 evI (emC M) [.int p0] M (FX5_isDigit p0) := by
  refine ct_of (by decide) (Nat.le_of_ble_eq_true rfl) (fun x hl hx hb hz => ?_)
  subst hl
  have hd : ∀ i, DAt (xc x).code (tbX5_isDigit[i]?) := fun i => by rw [hb]; exact dat_of dX5_isDigit i
  show C x w (Qn x w evI (emC M)) 1 0 [(0, .int p0)] [] M (FX5_isDigit p0)
  unfold FX5_isDigit
  refine r_iload_n (pc' := 1) hx (hd 0) rfl 0 rfl rfl ?_
  refine r_bipush (pc' := 3) (v := 48) hx (hd 1) (by decide) rfl ?_
  refine r_jn1 17 (fun v1 => []) (fun v1 => [.int v1]) (fun v1 => M) (fun v1 => ?_) (fun j2 hj3 => ?_)
  · skip
    refine r_gd (fun h4 => ?_)
    exact r_zret hx (hd 9) h4 rfl rfl hz
  refine r_jn0 16 ([]) ([]) (M) (?_) (fun j5 hj6 => ?_)
  · skip
    refine r_iconst (pc' := 17) (v := 0) hx (hd 8) (by decide) rfl ?_
    exact hj3 0
  refine r_icmp_lt (tgt := 16) (pc' := 6) hx (hd 2) (by decide) (fun _ => ?_) rfl (fun _ => ?_)
  · skip
    refine r_sub [] rfl ?_
    exact hj6
  · skip
    refine r_iload_n (pc' := 7) hx (hd 3) rfl 0 rfl rfl ?_
    refine r_bipush (pc' := 9) (v := 57) hx (hd 4) (by decide) rfl ?_
    refine r_icmp_gt (tgt := 16) (pc' := 12) hx (hd 5) (by decide) (fun _ => ?_) rfl (fun _ => ?_)
    · skip
      refine r_sub [] rfl ?_
      exact hj6
    · skip
      refine r_iconst (pc' := 13) (v := 1) hx (hd 6) (by decide) rfl ?_
      refine r_goto (tgt := 17) hx (hd 7) (by decide) ?_
      refine r_sub [] rfl ?_
      exact hj3 1
abbrev yX5_numberAt : MethodName := ({ cls := "CribbageRoom$Reader", name := "numberAt", desc := "()I" } : Jvm.MethodName)
def tbX5_numberAt : List (Nat × Instr × Nat) := [(0, .iconst 0, 1), (1, .istore_n 1, 1), (2, .aload_n 0, 1), (3, .getfield 60, 3), (6, .istore_n 2, 1), (7, .iload_n 2, 1), (8, .aload_n 0, 1), (9, .getfield 36, 3), (12, .if_icmp .ge 37, 3), (15, .iload_n 2, 1), (16, .sipush 400, 3), (19, .if_icmp .ge 30, 3), (22, .sipush 1001, 3), (25, .iload_n 1, 1), (26, .bipush 10, 2), (28, .imul, 1), (29, .aload_n 0, 1), (30, .getfield 9, 3), (33, .iload_n 2, 1), (34, .iaload, 1), (35, .iadd, 1), (36, .bipush 48, 2), (38, .isub, 1), (39, .invokestatic 125, 3), (42, .istore_n 1, 1), (43, .iinc 2 1, 3), (46, .goto (-39), 3), (49, .iload_n 1, 1), (50, .ireturn, 1)]
theorem dX5_numberAt : ∀ q ∈ tbX5_numberAt, decode prog_7_method_20_code q.1 = .ok q.2 := by decide +kernel
set_option maxRecDepth 20000 in
theorem cX5_numberAt (l : Launch) (w : WX) (hL : Lay w) (t : Nat) (ht : Wat w t 5 0) (M : Mem) : Ct l w yX5_numberAt prog_7_method_20_code 3 (Option.some FieldType.int) 1 30 evI (emC M) [.ref t] M (FX5_numberAt t M) := by
  refine ct_of (by decide) (Nat.le_of_ble_eq_true rfl) (fun x hl hx hb hz => ?_)
  subst hl
  have hd : ∀ i, DAt (xc x).code (tbX5_numberAt[i]?) := fun i => by rw [hb]; exact dat_of dX5_numberAt i
  show C x w (Qn x w evI (emC M)) 3 0 [(0, .ref t)] [] M (FX5_numberAt t M)
  unfold FX5_numberAt
  refine r_iconst (pc' := 1) (v := 0) hx (hd 0) (by decide) rfl ?_
  refine r_istore_n (pc' := 2) (L' := [(1, .int 0), (0, .ref t)]) hx (hd 1) rfl (by decide) rfl rfl ?_
  refine r_aload_n (pc' := 3) hx (hd 2) rfl 1 rfl rfl ?_
  refine r_get (pc' := 6) (v := .int (mI M t 6)) hx (hd 3) fl_5_60 ht rfl (by decide) rfl ?_
  refine r_nmI (fun v1 => ?_)
  refine r_istore_n (pc' := 7) (L' := [(2, .int v1), (1, .int 0), (0, .ref t)]) hx (hd 4) rfl (by decide) rfl rfl ?_
  refine r_sub [2, 1, 0] rfl ?_
  refine r_wl2 (fun v2 v3 => [(0, .ref t), (1, .int v2), (2, .int v3)]) (fun v2 v3 => []) (fun v2 v3 => M) (fun v2 v3 rec4 ih5 => ?_) fuel 0 v1
  refine r_iload_n (pc' := 8) hx (hd 5) rfl 2 rfl rfl ?_
  refine r_aload_n (pc' := 9) hx (hd 6) rfl 0 rfl rfl ?_
  refine r_get (pc' := 12) (v := .int (mI M t 7)) hx (hd 7) fl_5_36 ht rfl (by decide) rfl ?_
  refine r_jn0 49 ([(1, .int v2)]) ([]) (M) (?_) (fun j6 hj7 => ?_)
  · skip
    refine r_iload_n (pc' := 50) hx (hd 27) rfl 0 rfl rfl ?_
    exact r_iret hx (hd 28) rfl rfl hz
  refine r_icmp_ge (tgt := 49) (pc' := 15) hx (hd 8) (by decide) (fun _ => ?_) rfl (fun _ => ?_)
  · skip
    refine r_sub [1] rfl ?_
    exact hj7
  · skip
    refine r_iload_n (pc' := 16) hx (hd 9) rfl 2 rfl rfl ?_
    refine r_sipush (pc' := 19) (v := 400) hx (hd 10) (by decide) rfl ?_
    refine r_icmp_ge (tgt := 49) (pc' := 22) hx (hd 11) (by decide) (fun _ => ?_) rfl (fun _ => ?_)
    · skip
      refine r_sub [1] rfl ?_
      exact hj7
    · skip
      refine r_sipush (pc' := 25) (v := 1001) hx (hd 12) (by decide) rfl ?_
      refine r_iload_n (pc' := 26) hx (hd 13) rfl 1 rfl rfl ?_
      refine r_bipush (pc' := 28) (v := 10) hx (hd 14) (by decide) rfl ?_
      refine r_imul (pc' := 29) hx (hd 15) rfl ?_
      refine r_aload_n (pc' := 30) hx (hd 16) rfl 0 rfl rfl ?_
      refine r_get (pc' := 33) (v := .ref (t + 1)) hx (hd 17) fl_5_9 ht rfl (by decide) rfl ?_
      have h8 := hL.1 _ _ _ ht 0 1 20 400 rfl
      refine r_iload_n (pc' := 34) hx (hd 18) rfl 2 rfl rfl ?_
      refine r_gd (fun h9 => ?_)
      refine r_iald (pc' := 35) (k := ix v3) hx (hd 19) h8 h9 rfl rfl ?_
      refine r_iadd (pc' := 36) hx (hd 20) rfl ?_
      refine r_bipush (pc' := 38) (v := 48) hx (hd 21) (by decide) rfl ?_
      refine r_isub (pc' := 39) hx (hd 22) rfl ?_
      refine r_mmin (pc' := 42) hx (hd 23) ml_5_125 ⟨Nat.le_of_ble_eq_true rfl, Nat.le_of_ble_eq_true rfl⟩ (Nat.le_of_ble_eq_true rfl) rfl ?_
      refine r_nmI (fun v10 => ?_)
      refine r_istore_n (pc' := 43) (L' := [(1, .int v10), (0, .ref t), (2, .int v3)]) hx (hd 24) rfl (by decide) rfl rfl ?_
      refine r_iinc (pc' := 46) (v := 1) hx (hd 25) 2 rfl (by decide) (by decide) (fun v11 => [(2, .int v11), (1, .int v10), (0, .ref t)]) (fun _ => rfl) rfl (fun v11 => ?_)
      refine r_goto (tgt := 7) hx (hd 26) (by decide) ?_
      refine r_sub [2, 1, 0] rfl ?_
      exact ih5 v10 v11
abbrev yX5_advance : MethodName := ({ cls := "CribbageRoom$Reader", name := "advance", desc := "()Z" } : Jvm.MethodName)
def tbX5_advance : List (Nat × Instr × Nat) := [(0, .aload_n 0, 1), (1, .aload_n 0, 1), (2, .getfield 36, 3), (5, .putfield 60, 3), (8, .aload_n 0, 1), (9, .getfield 60, 3), (12, .aload_n 0, 1), (13, .getfield 26, 3), (16, .if_icmp .ge 30, 3), (19, .aload_n 0, 1), (20, .getfield 9, 3), (23, .aload_n 0, 1), (24, .getfield 60, 3), (27, .iaload, 1), (28, .bipush 32, 2), (30, .if_icmp .ne 16, 3), (33, .aload_n 0, 1), (34, .dup, 1), (35, .getfield 60, 3), (38, .iconst 1, 1), (39, .iadd, 1), (40, .putfield 60, 3), (43, .goto (-35), 3), (46, .aload_n 0, 1), (47, .getfield 60, 3), (50, .aload_n 0, 1), (51, .getfield 26, 3), (54, .if_icmp .lt 26, 3), (57, .aload_n 0, 1), (58, .aload_n 0, 1), (59, .getfield 26, 3), (62, .putfield 36, 3), (65, .aload_n 0, 1), (66, .aload_n 0, 1), (67, .getfield 26, 3), (70, .putfield 60, 3), (73, .aload_n 0, 1), (74, .iconst 0, 1), (75, .putfield 57, 3), (78, .iconst 1, 1), (79, .ireturn, 1), (80, .aload_n 0, 1), (81, .aload_n 0, 1), (82, .getfield 60, 3), (85, .iconst 1, 1), (86, .iadd, 1), (87, .putfield 36, 3), (90, .aload_n 0, 1), (91, .getfield 9, 3), (94, .aload_n 0, 1), (95, .getfield 60, 3), (98, .iaload, 1), (99, .invokestatic 112, 3), (102, .ifCond .eq 58, 3), (105, .aload_n 0, 1), (106, .getfield 36, 3), (109, .aload_n 0, 1), (110, .getfield 26, 3), (113, .if_icmp .ge 31, 3), (116, .aload_n 0, 1), (117, .getfield 9, 3), (120, .aload_n 0, 1), (121, .getfield 36, 3), (124, .iaload, 1), (125, .invokestatic 112, 3), (128, .ifCond .eq 16, 3), (131, .aload_n 0, 1), (132, .dup, 1), (133, .getfield 36, 3), (136, .iconst 1, 1), (137, .iadd, 1), (138, .putfield 36, 3), (141, .goto (-36), 3), (144, .aload_n 0, 1), (145, .iconst 1, 1), (146, .putfield 57, 3), (149, .aload_n 0, 1), (150, .aload_n 0, 1), (151, .invokevirtual 115, 3), (154, .putfield 63, 3), (157, .goto 91, 3), (160, .aload_n 0, 1), (161, .getfield 9, 3), (164, .aload_n 0, 1), (165, .getfield 60, 3), (168, .iaload, 1), (169, .invokestatic 119, 3), (172, .ifCond .eq 58, 3), (175, .aload_n 0, 1), (176, .getfield 36, 3), (179, .aload_n 0, 1), (180, .getfield 26, 3), (183, .if_icmp .ge 31, 3), (186, .aload_n 0, 1), (187, .getfield 9, 3), (190, .aload_n 0, 1), (191, .getfield 36, 3), (194, .iaload, 1), (195, .invokestatic 119, 3), (198, .ifCond .eq 16, 3), (201, .aload_n 0, 1), (202, .dup, 1), (203, .getfield 36, 3), (206, .iconst 1, 1), (207, .iadd, 1), (208, .putfield 36, 3), (211, .goto (-36), 3), (214, .aload_n 0, 1), (215, .iconst 2, 1), (216, .putfield 57, 3), (219, .aload_n 0, 1), (220, .aload_n 0, 1), (221, .invokevirtual 122, 3), (224, .putfield 63, 3), (227, .goto 21, 3), (230, .aload_n 0, 1), (231, .iconst 3, 1), (232, .putfield 57, 3), (235, .aload_n 0, 1), (236, .aload_n 0, 1), (237, .getfield 9, 3), (240, .aload_n 0, 1), (241, .getfield 60, 3), (244, .iaload, 1), (245, .putfield 63, 3), (248, .iconst 1, 1), (249, .ireturn, 1)]
theorem dX5_advance : ∀ q ∈ tbX5_advance, decode prog_7_method_17_code q.1 = .ok q.2 := by decide +kernel
set_option maxRecDepth 20000 in
theorem cX5_advance (l : Launch) (w : WX) (hL : Lay w) (t : Nat) (ht : Wat w t 5 0) (M : Mem) : Ct l w yX5_advance prog_7_method_17_code 1 (Option.some FieldType.boolean) 7 185 evIM emM [.ref t] M (FX5_advance t M) := by
  refine ct_of (by decide) (Nat.le_of_ble_eq_true rfl) (fun x hl hx hb hz => ?_)
  subst hl
  have hd : ∀ i, DAt (xc x).code (tbX5_advance[i]?) := fun i => by rw [hb]; exact dat_of dX5_advance i
  show C x w (Qn x w evIM emM) 1 0 [(0, .ref t)] [] M (FX5_advance t M)
  unfold FX5_advance
  refine r_aload_n (pc' := 1) hx (hd 0) rfl 0 rfl rfl ?_
  refine r_aload_n (pc' := 2) hx (hd 1) rfl 0 rfl rfl ?_
  refine r_get (pc' := 5) (v := .int (mI M t 7)) hx (hd 2) fl_5_36 ht rfl (by decide) rfl ?_
  refine r_putI (pc' := 8) hx (hd 3) fp_5_60 ht rfl (by decide) rfl (fun M1 => ?_)
  refine r_wl1 (fun M2 => [(0, .ref t)]) (fun M2 => []) (fun M2 => M2) (fun M2 rec3 ih4 => ?_) fuel M1
  refine r_aload_n (pc' := 9) hx (hd 4) rfl 0 rfl rfl ?_
  refine r_get (pc' := 12) (v := .int (mI M2 t 6)) hx (hd 5) fl_5_60 ht rfl (by decide) rfl ?_
  refine r_aload_n (pc' := 13) hx (hd 6) rfl 0 rfl rfl ?_
  refine r_get (pc' := 16) (v := .int (mI M2 t 2)) hx (hd 7) fl_5_26 ht rfl (by decide) rfl ?_
  refine r_jn0 46 ([(0, .ref t)]) ([]) (M2) (?_) (fun j5 hj6 => ?_)
  · skip
    refine r_aload_n (pc' := 47) hx (hd 23) rfl 0 rfl rfl ?_
    refine r_get (pc' := 50) (v := .int (mI M2 t 6)) hx (hd 24) fl_5_60 ht rfl (by decide) rfl ?_
    refine r_aload_n (pc' := 51) hx (hd 25) rfl 0 rfl rfl ?_
    refine r_get (pc' := 54) (v := .int (mI M2 t 2)) hx (hd 26) fl_5_26 ht rfl (by decide) rfl ?_
    refine r_icmp_lt (tgt := 80) (pc' := 57) hx (hd 27) (by decide) (fun _ => ?_) rfl (fun _ => ?_)
    · skip
      refine r_aload_n (pc' := 81) hx (hd 41) rfl 0 rfl rfl ?_
      refine r_aload_n (pc' := 82) hx (hd 42) rfl 0 rfl rfl ?_
      refine r_get (pc' := 85) (v := .int (mI M2 t 6)) hx (hd 43) fl_5_60 ht rfl (by decide) rfl ?_
      refine r_iconst (pc' := 86) (v := 1) hx (hd 44) (by decide) rfl ?_
      refine r_iadd (pc' := 87) hx (hd 45) rfl ?_
      refine r_putI (pc' := 90) hx (hd 46) fp_5_36 ht rfl (by decide) rfl (fun M7 => ?_)
      refine r_aload_n (pc' := 91) hx (hd 47) rfl 0 rfl rfl ?_
      refine r_get (pc' := 94) (v := .ref (t + 1)) hx (hd 48) fl_5_9 ht rfl (by decide) rfl ?_
      have h8 := hL.1 _ _ _ ht 0 1 20 400 rfl
      refine r_aload_n (pc' := 95) hx (hd 49) rfl 0 rfl rfl ?_
      refine r_get (pc' := 98) (v := .int (mI M7 t 6)) hx (hd 50) fl_5_60 ht rfl (by decide) rfl ?_
      refine r_gd (fun h9 => ?_)
      refine r_iald (pc' := 99) (k := ix (mI M7 t 6)) hx (hd 51) h8 h9 rfl rfl ?_
      refine r_callS (pc' := 102) (As := [.int (mI M7 (t + 1) (ix (mI M7 t 6)))]) (rest := []) hx (hd 52) md_X5_isLetter mst_X5_isLetter ml_5_112 (cX5_isLetter (xl x) w hL (mI M7 (t + 1) (ix (mI M7 t 6))) M7) ⟨Nat.le_of_ble_eq_true rfl, Nat.le_of_ble_eq_true rfl⟩ rfl rfl (Nat.le_of_ble_eq_true rfl) (fun r10 => .int r10 :: []) (fun _ => M7) (fun _ => ⟨rfl, rfl⟩) rfl (fun r10 _ => ?_)
      refine r_jn1 248 (fun M11 => []) (fun M11 => []) (fun M11 => M11) (fun M11 => ?_) (fun j12 hj13 => ?_)
      · skip
        refine r_iconst (pc' := 249) (v := 1) hx (hd 125) (by decide) rfl ?_
        exact r_zret hx (hd 126) rfl rfl rfl hz
      refine r_if_eq (tgt := 160) (pc' := 105) hx (hd 53) (by decide) (fun _ => ?_) rfl (fun _ => ?_)
      · skip
        refine r_aload_n (pc' := 161) hx (hd 81) rfl 0 rfl rfl ?_
        refine r_get (pc' := 164) (v := .ref (t + 1)) hx (hd 82) fl_5_9 ht rfl (by decide) rfl ?_
        have h14 := hL.1 _ _ _ ht 0 1 20 400 rfl
        refine r_aload_n (pc' := 165) hx (hd 83) rfl 0 rfl rfl ?_
        refine r_get (pc' := 168) (v := .int (mI M7 t 6)) hx (hd 84) fl_5_60 ht rfl (by decide) rfl ?_
        refine r_gd (fun h15 => ?_)
        refine r_iald (pc' := 169) (k := ix (mI M7 t 6)) hx (hd 85) h14 h15 rfl rfl ?_
        refine r_callS (pc' := 172) (As := [.int (mI M7 (t + 1) (ix (mI M7 t 6)))]) (rest := []) hx (hd 86) md_X5_isDigit mst_X5_isDigit ml_5_119 (cX5_isDigit (xl x) w hL (mI M7 (t + 1) (ix (mI M7 t 6))) M7) ⟨Nat.le_of_ble_eq_true rfl, Nat.le_of_ble_eq_true rfl⟩ rfl rfl (Nat.le_of_ble_eq_true rfl) (fun r16 => .int r16 :: []) (fun _ => M7) (fun _ => ⟨rfl, rfl⟩) rfl (fun r16 _ => ?_)
        refine r_if_eq (tgt := 230) (pc' := 175) hx (hd 87) (by decide) (fun _ => ?_) rfl (fun _ => ?_)
        · skip
          refine r_aload_n (pc' := 231) hx (hd 115) rfl 0 rfl rfl ?_
          refine r_iconst (pc' := 232) (v := 3) hx (hd 116) (by decide) rfl ?_
          refine r_putI (pc' := 235) hx (hd 117) fp_5_57 ht rfl (by decide) rfl (fun M17 => ?_)
          refine r_aload_n (pc' := 236) hx (hd 118) rfl 0 rfl rfl ?_
          refine r_aload_n (pc' := 237) hx (hd 119) rfl 0 rfl rfl ?_
          refine r_get (pc' := 240) (v := .ref (t + 1)) hx (hd 120) fl_5_9 ht rfl (by decide) rfl ?_
          have h18 := hL.1 _ _ _ ht 0 1 20 400 rfl
          refine r_aload_n (pc' := 241) hx (hd 121) rfl 0 rfl rfl ?_
          refine r_get (pc' := 244) (v := .int (mI M17 t 6)) hx (hd 122) fl_5_60 ht rfl (by decide) rfl ?_
          refine r_gd (fun h19 => ?_)
          refine r_iald (pc' := 245) (k := ix (mI M17 t 6)) hx (hd 123) h18 h19 rfl rfl ?_
          refine r_putI (pc' := 248) hx (hd 124) fp_5_63 ht rfl (by decide) rfl (fun M20 => ?_)
          refine r_sub [] rfl ?_
          exact hj13 M20
        · skip
          refine r_wl1 (fun M21 => [(0, .ref t)]) (fun M21 => []) (fun M21 => M21) (fun M21 rec22 ih23 => ?_) fuel M7
          refine r_aload_n (pc' := 176) hx (hd 88) rfl 0 rfl rfl ?_
          refine r_get (pc' := 179) (v := .int (mI M21 t 7)) hx (hd 89) fl_5_36 ht rfl (by decide) rfl ?_
          refine r_aload_n (pc' := 180) hx (hd 90) rfl 0 rfl rfl ?_
          refine r_get (pc' := 183) (v := .int (mI M21 t 2)) hx (hd 91) fl_5_26 ht rfl (by decide) rfl ?_
          refine r_jn0 214 ([(0, .ref t)]) ([]) (M21) (?_) (fun j24 hj25 => ?_)
          · skip
            refine r_aload_n (pc' := 215) hx (hd 107) rfl 0 rfl rfl ?_
            refine r_iconst (pc' := 216) (v := 2) hx (hd 108) (by decide) rfl ?_
            refine r_putI (pc' := 219) hx (hd 109) fp_5_57 ht rfl (by decide) rfl (fun M26 => ?_)
            refine r_aload_n (pc' := 220) hx (hd 110) rfl 0 rfl rfl ?_
            refine r_aload_n (pc' := 221) hx (hd 111) rfl 0 rfl rfl ?_
            refine r_callV (pc' := 224) (As := []) (rest := [.ref t]) hx (hd 112) md_X5_numberAt mi_X5_numberAt ms_X5_numberAt ml_5_122 (cX5_numberAt (xl x) w hL t ht M26) ht rfl (by decide) ⟨Nat.le_of_ble_eq_true rfl, Nat.le_of_ble_eq_true rfl⟩ rfl rfl (Nat.le_of_ble_eq_true rfl) (fun r27 => .int r27 :: [.ref t]) (fun _ => M26) (fun _ => ⟨rfl, rfl⟩) rfl (fun r27 _ => ?_)
            refine r_putI (pc' := 227) hx (hd 113) fp_5_63 ht rfl (by decide) rfl (fun M28 => ?_)
            refine r_goto (tgt := 248) hx (hd 114) (by decide) ?_
            refine r_sub [] rfl ?_
            exact hj13 M28
          refine r_icmp_ge (tgt := 214) (pc' := 186) hx (hd 92) (by decide) (fun _ => ?_) rfl (fun _ => ?_)
          · skip
            exact hj25
          · skip
            refine r_aload_n (pc' := 187) hx (hd 93) rfl 0 rfl rfl ?_
            refine r_get (pc' := 190) (v := .ref (t + 1)) hx (hd 94) fl_5_9 ht rfl (by decide) rfl ?_
            have h29 := hL.1 _ _ _ ht 0 1 20 400 rfl
            refine r_aload_n (pc' := 191) hx (hd 95) rfl 0 rfl rfl ?_
            refine r_get (pc' := 194) (v := .int (mI M21 t 7)) hx (hd 96) fl_5_36 ht rfl (by decide) rfl ?_
            refine r_gd (fun h30 => ?_)
            refine r_iald (pc' := 195) (k := ix (mI M21 t 7)) hx (hd 97) h29 h30 rfl rfl ?_
            refine r_callS (pc' := 198) (As := [.int (mI M21 (t + 1) (ix (mI M21 t 7)))]) (rest := []) hx (hd 98) md_X5_isDigit mst_X5_isDigit ml_5_119 (cX5_isDigit (xl x) w hL (mI M21 (t + 1) (ix (mI M21 t 7))) M21) ⟨Nat.le_of_ble_eq_true rfl, Nat.le_of_ble_eq_true rfl⟩ rfl rfl (Nat.le_of_ble_eq_true rfl) (fun r31 => .int r31 :: []) (fun _ => M21) (fun _ => ⟨rfl, rfl⟩) rfl (fun r31 _ => ?_)
            refine r_if_eq (tgt := 214) (pc' := 201) hx (hd 99) (by decide) (fun _ => ?_) rfl (fun _ => ?_)
            · skip
              exact hj25
            · skip
              refine r_aload_n (pc' := 202) hx (hd 100) rfl 0 rfl rfl ?_
              refine r_dup (pc' := 203) hx (hd 101) rfl rfl ?_
              refine r_get (pc' := 206) (v := .int (mI M21 t 7)) hx (hd 102) fl_5_36 ht rfl (by decide) rfl ?_
              refine r_iconst (pc' := 207) (v := 1) hx (hd 103) (by decide) rfl ?_
              refine r_iadd (pc' := 208) hx (hd 104) rfl ?_
              refine r_putI (pc' := 211) hx (hd 105) fp_5_36 ht rfl (by decide) rfl (fun M32 => ?_)
              refine r_goto (tgt := 175) hx (hd 106) (by decide) ?_
              exact ih23 M32
      · skip
        refine r_wl1 (fun M33 => [(0, .ref t)]) (fun M33 => []) (fun M33 => M33) (fun M33 rec34 ih35 => ?_) fuel M7
        refine r_aload_n (pc' := 106) hx (hd 54) rfl 0 rfl rfl ?_
        refine r_get (pc' := 109) (v := .int (mI M33 t 7)) hx (hd 55) fl_5_36 ht rfl (by decide) rfl ?_
        refine r_aload_n (pc' := 110) hx (hd 56) rfl 0 rfl rfl ?_
        refine r_get (pc' := 113) (v := .int (mI M33 t 2)) hx (hd 57) fl_5_26 ht rfl (by decide) rfl ?_
        refine r_jn0 144 ([(0, .ref t)]) ([]) (M33) (?_) (fun j36 hj37 => ?_)
        · skip
          refine r_aload_n (pc' := 145) hx (hd 73) rfl 0 rfl rfl ?_
          refine r_iconst (pc' := 146) (v := 1) hx (hd 74) (by decide) rfl ?_
          refine r_putI (pc' := 149) hx (hd 75) fp_5_57 ht rfl (by decide) rfl (fun M38 => ?_)
          refine r_aload_n (pc' := 150) hx (hd 76) rfl 0 rfl rfl ?_
          refine r_aload_n (pc' := 151) hx (hd 77) rfl 0 rfl rfl ?_
          refine r_callV (pc' := 154) (As := []) (rest := [.ref t]) hx (hd 78) md_X5_wordAt mi_X5_wordAt ms_X5_wordAt ml_5_115 (cX5_wordAt (xl x) w hL t ht M38) ht rfl (by decide) ⟨Nat.le_of_ble_eq_true rfl, Nat.le_of_ble_eq_true rfl⟩ rfl rfl (Nat.le_of_ble_eq_true rfl) (fun r39 => .int r39 :: [.ref t]) (fun _ => M38) (fun _ => ⟨rfl, rfl⟩) rfl (fun r39 _ => ?_)
          refine r_putI (pc' := 157) hx (hd 79) fp_5_63 ht rfl (by decide) rfl (fun M40 => ?_)
          refine r_goto (tgt := 248) hx (hd 80) (by decide) ?_
          refine r_sub [] rfl ?_
          exact hj13 M40
        refine r_icmp_ge (tgt := 144) (pc' := 116) hx (hd 58) (by decide) (fun _ => ?_) rfl (fun _ => ?_)
        · skip
          exact hj37
        · skip
          refine r_aload_n (pc' := 117) hx (hd 59) rfl 0 rfl rfl ?_
          refine r_get (pc' := 120) (v := .ref (t + 1)) hx (hd 60) fl_5_9 ht rfl (by decide) rfl ?_
          have h41 := hL.1 _ _ _ ht 0 1 20 400 rfl
          refine r_aload_n (pc' := 121) hx (hd 61) rfl 0 rfl rfl ?_
          refine r_get (pc' := 124) (v := .int (mI M33 t 7)) hx (hd 62) fl_5_36 ht rfl (by decide) rfl ?_
          refine r_gd (fun h42 => ?_)
          refine r_iald (pc' := 125) (k := ix (mI M33 t 7)) hx (hd 63) h41 h42 rfl rfl ?_
          refine r_callS (pc' := 128) (As := [.int (mI M33 (t + 1) (ix (mI M33 t 7)))]) (rest := []) hx (hd 64) md_X5_isLetter mst_X5_isLetter ml_5_112 (cX5_isLetter (xl x) w hL (mI M33 (t + 1) (ix (mI M33 t 7))) M33) ⟨Nat.le_of_ble_eq_true rfl, Nat.le_of_ble_eq_true rfl⟩ rfl rfl (Nat.le_of_ble_eq_true rfl) (fun r43 => .int r43 :: []) (fun _ => M33) (fun _ => ⟨rfl, rfl⟩) rfl (fun r43 _ => ?_)
          refine r_if_eq (tgt := 144) (pc' := 131) hx (hd 65) (by decide) (fun _ => ?_) rfl (fun _ => ?_)
          · skip
            exact hj37
          · skip
            refine r_aload_n (pc' := 132) hx (hd 66) rfl 0 rfl rfl ?_
            refine r_dup (pc' := 133) hx (hd 67) rfl rfl ?_
            refine r_get (pc' := 136) (v := .int (mI M33 t 7)) hx (hd 68) fl_5_36 ht rfl (by decide) rfl ?_
            refine r_iconst (pc' := 137) (v := 1) hx (hd 69) (by decide) rfl ?_
            refine r_iadd (pc' := 138) hx (hd 70) rfl ?_
            refine r_putI (pc' := 141) hx (hd 71) fp_5_36 ht rfl (by decide) rfl (fun M44 => ?_)
            refine r_goto (tgt := 105) hx (hd 72) (by decide) ?_
            exact ih35 M44
    · skip
      refine r_aload_n (pc' := 58) hx (hd 28) rfl 0 rfl rfl ?_
      refine r_aload_n (pc' := 59) hx (hd 29) rfl 0 rfl rfl ?_
      refine r_get (pc' := 62) (v := .int (mI M2 t 2)) hx (hd 30) fl_5_26 ht rfl (by decide) rfl ?_
      refine r_putI (pc' := 65) hx (hd 31) fp_5_36 ht rfl (by decide) rfl (fun M45 => ?_)
      refine r_aload_n (pc' := 66) hx (hd 32) rfl 0 rfl rfl ?_
      refine r_aload_n (pc' := 67) hx (hd 33) rfl 0 rfl rfl ?_
      refine r_get (pc' := 70) (v := .int (mI M45 t 2)) hx (hd 34) fl_5_26 ht rfl (by decide) rfl ?_
      refine r_putI (pc' := 73) hx (hd 35) fp_5_60 ht rfl (by decide) rfl (fun M46 => ?_)
      refine r_aload_n (pc' := 74) hx (hd 36) rfl 0 rfl rfl ?_
      refine r_iconst (pc' := 75) (v := 0) hx (hd 37) (by decide) rfl ?_
      refine r_putI (pc' := 78) hx (hd 38) fp_5_57 ht rfl (by decide) rfl (fun M47 => ?_)
      refine r_iconst (pc' := 79) (v := 1) hx (hd 39) (by decide) rfl ?_
      exact r_zret hx (hd 40) rfl rfl rfl hz
  refine r_icmp_ge (tgt := 46) (pc' := 19) hx (hd 8) (by decide) (fun _ => ?_) rfl (fun _ => ?_)
  · skip
    exact hj6
  · skip
    refine r_aload_n (pc' := 20) hx (hd 9) rfl 0 rfl rfl ?_
    refine r_get (pc' := 23) (v := .ref (t + 1)) hx (hd 10) fl_5_9 ht rfl (by decide) rfl ?_
    have h48 := hL.1 _ _ _ ht 0 1 20 400 rfl
    refine r_aload_n (pc' := 24) hx (hd 11) rfl 0 rfl rfl ?_
    refine r_get (pc' := 27) (v := .int (mI M2 t 6)) hx (hd 12) fl_5_60 ht rfl (by decide) rfl ?_
    refine r_gd (fun h49 => ?_)
    refine r_iald (pc' := 28) (k := ix (mI M2 t 6)) hx (hd 13) h48 h49 rfl rfl ?_
    refine r_bipush (pc' := 30) (v := 32) hx (hd 14) (by decide) rfl ?_
    refine r_icmp_ne (tgt := 46) (pc' := 33) hx (hd 15) (by decide) (fun _ => ?_) rfl (fun _ => ?_)
    · skip
      exact hj6
    · skip
      refine r_aload_n (pc' := 34) hx (hd 16) rfl 0 rfl rfl ?_
      refine r_dup (pc' := 35) hx (hd 17) rfl rfl ?_
      refine r_get (pc' := 38) (v := .int (mI M2 t 6)) hx (hd 18) fl_5_60 ht rfl (by decide) rfl ?_
      refine r_iconst (pc' := 39) (v := 1) hx (hd 19) (by decide) rfl ?_
      refine r_iadd (pc' := 40) hx (hd 20) rfl ?_
      refine r_putI (pc' := 43) hx (hd 21) fp_5_60 ht rfl (by decide) rfl (fun M50 => ?_)
      refine r_goto (tgt := 8) hx (hd 22) (by decide) ?_
      exact ih4 M50
abbrev yX9_mark : MethodName := ({ cls := "CribbageRoom$Text", name := "mark", desc := "(II)V" } : Jvm.MethodName)
def tbX9_mark : List (Nat × Instr × Nat) := [(0, .aload_n 0, 1), (1, .getfield 28, 3), (4, .bipush 6, 2), (6, .imul, 1), (7, .iload_n 1, 1), (8, .iadd, 1), (9, .istore_n 3, 1), (10, .iload_n 3, 1), (11, .ifCond .lt 19, 3), (14, .iload_n 3, 1), (15, .aload_n 0, 1), (16, .getfield 15, 3), (19, .arraylength, 1), (20, .if_icmp .ge 10, 3), (23, .aload_n 0, 1), (24, .getfield 15, 3), (27, .iload_n 3, 1), (28, .iload_n 2, 1), (29, .iastore, 1), (30, .return_, 1)]
theorem dX9_mark : ∀ q ∈ tbX9_mark, decode prog_11_method_4_code q.1 = .ok q.2 := by decide +kernel
set_option maxRecDepth 20000 in
theorem cX9_mark (l : Launch) (w : WX) (hL : Lay w) (t : Nat) (ht : Wat w t 9 0) (p1 : Int32) (p2 : Int32) (M : Mem) : Ct l w yX9_mark prog_11_method_4_code 4 (Option.none : Option FieldType) 0 0 evU emU [.ref t, .int p1, .int p2] M (FX9_mark t p1 p2 M) := by
  refine ct_of (by decide) (Nat.le_of_ble_eq_true rfl) (fun x hl hx hb hz => ?_)
  subst hl
  have hd : ∀ i, DAt (xc x).code (tbX9_mark[i]?) := fun i => by rw [hb]; exact dat_of dX9_mark i
  show C x w (Qn x w evU emU) 4 0 [(0, .ref t), (1, .int p1), (2, .int p2)] [] M (FX9_mark t p1 p2 M)
  unfold FX9_mark
  refine r_aload_n (pc' := 1) hx (hd 0) rfl 0 rfl rfl ?_
  refine r_get (pc' := 4) (v := .int (mI M t 3)) hx (hd 1) fl_9_28 ht rfl (by decide) rfl ?_
  refine r_bipush (pc' := 6) (v := 6) hx (hd 2) (by decide) rfl ?_
  refine r_imul (pc' := 7) hx (hd 3) rfl ?_
  refine r_iload_n (pc' := 8) hx (hd 4) rfl 1 rfl rfl ?_
  refine r_iadd (pc' := 9) hx (hd 5) rfl ?_
  refine r_nmI (fun v1 => ?_)
  refine r_istore_n (pc' := 10) (L' := [(3, .int v1), (0, .ref t), (1, .int p1), (2, .int p2)]) hx (hd 6) rfl (by decide) rfl rfl ?_
  refine r_iload_n (pc' := 11) hx (hd 7) rfl 0 rfl rfl ?_
  refine r_jn1 30 (fun M2 => []) (fun M2 => []) (fun M2 => M2) (fun M2 => ?_) (fun j3 hj4 => ?_)
  · skip
    exact r_vret hx (hd 19) rfl rfl hz
  refine r_if_lt (tgt := 30) (pc' := 14) hx (hd 8) (by decide) (fun _ => ?_) rfl (fun _ => ?_)
  · skip
    refine r_sub [] rfl ?_
    exact hj4 M
  · skip
    refine r_iload_n (pc' := 15) hx (hd 9) rfl 0 rfl rfl ?_
    refine r_aload_n (pc' := 16) hx (hd 10) rfl 1 rfl rfl ?_
    refine r_get (pc' := 19) (v := .ref (t + 2)) hx (hd 11) fl_9_15 ht rfl (by decide) rfl ?_
    have h5 := hL.1 _ _ _ ht 1 2 23 0 rfl
    refine r_alenD (pc' := 20) hx (hd 12) h5 rfl ?_
    refine r_icmp_ge (tgt := 30) (pc' := 23) hx (hd 13) (by decide) (fun _ => ?_) rfl (fun _ => ?_)
    · skip
      refine r_sub [] rfl ?_
      exact hj4 M
    · skip
      refine r_aload_n (pc' := 24) hx (hd 14) rfl 1 rfl rfl ?_
      refine r_get (pc' := 27) (v := .ref (t + 2)) hx (hd 15) fl_9_15 ht rfl (by decide) rfl ?_
      have h6 := hL.1 _ _ _ ht 1 2 23 0 rfl
      refine r_iload_n (pc' := 28) hx (hd 16) rfl 0 rfl rfl ?_
      refine r_iload_n (pc' := 29) hx (hd 17) rfl 3 rfl rfl ?_
      refine r_gd (fun h8 => ?_)
      refine r_iastD (pc' := 30) (k := ix v1) hx (hd 18) h6 h8 rfl rfl (fun M7 => ?_)
      refine r_sub [] rfl ?_
      exact hj4 M7
abbrev yX5_isSign : MethodName := ({ cls := "CribbageRoom$Reader", name := "isSign", desc := "(C)Z" } : Jvm.MethodName)
def tbX5_isSign : List (Nat × Instr × Nat) := [(0, .aload_n 0, 1), (1, .getfield 57, 3), (4, .iconst 3, 1), (5, .if_icmp .ne 15, 3), (8, .aload_n 0, 1), (9, .getfield 63, 3), (12, .iload_n 1, 1), (13, .if_icmp .ne 7, 3), (16, .iconst 1, 1), (17, .goto 4, 3), (20, .iconst 0, 1), (21, .ireturn, 1)]
theorem dX5_isSign : ∀ q ∈ tbX5_isSign, decode prog_7_method_14_code q.1 = .ok q.2 := by decide +kernel
set_option maxRecDepth 20000 in
theorem cX5_isSign (l : Launch) (w : WX) (hL : Lay w) (t : Nat) (ht : Wat w t 5 0) (p1 : Int32) (M : Mem) : Ct l w yX5_isSign prog_7_method_14_code 2 (Option.some FieldType.boolean) 0 0 evI (emC M) [.ref t, .int p1] M (FX5_isSign t p1 M) := by
  refine ct_of (by decide) (Nat.le_of_ble_eq_true rfl) (fun x hl hx hb hz => ?_)
  subst hl
  have hd : ∀ i, DAt (xc x).code (tbX5_isSign[i]?) := fun i => by rw [hb]; exact dat_of dX5_isSign i
  show C x w (Qn x w evI (emC M)) 2 0 [(0, .ref t), (1, .int p1)] [] M (FX5_isSign t p1 M)
  unfold FX5_isSign
  refine r_aload_n (pc' := 1) hx (hd 0) rfl 0 rfl rfl ?_
  refine r_get (pc' := 4) (v := .int (mI M t 8)) hx (hd 1) fl_5_57 ht rfl (by decide) rfl ?_
  refine r_iconst (pc' := 5) (v := 3) hx (hd 2) (by decide) rfl ?_
  refine r_jn1 21 (fun v1 => []) (fun v1 => [.int v1]) (fun v1 => M) (fun v1 => ?_) (fun j2 hj3 => ?_)
  · skip
    refine r_gd (fun h4 => ?_)
    exact r_zret hx (hd 11) h4 rfl rfl hz
  refine r_jn0 20 ([]) ([]) (M) (?_) (fun j5 hj6 => ?_)
  · skip
    refine r_iconst (pc' := 21) (v := 0) hx (hd 10) (by decide) rfl ?_
    exact hj3 0
  refine r_icmp_ne (tgt := 20) (pc' := 8) hx (hd 3) (by decide) (fun _ => ?_) rfl (fun _ => ?_)
  · skip
    refine r_sub [] rfl ?_
    exact hj6
  · skip
    refine r_aload_n (pc' := 9) hx (hd 4) rfl 0 rfl rfl ?_
    refine r_get (pc' := 12) (v := .int (mI M t 9)) hx (hd 5) fl_5_63 ht rfl (by decide) rfl ?_
    refine r_iload_n (pc' := 13) hx (hd 6) rfl 1 rfl rfl ?_
    refine r_icmp_ne (tgt := 20) (pc' := 16) hx (hd 7) (by decide) (fun _ => ?_) rfl (fun _ => ?_)
    · skip
      refine r_sub [] rfl ?_
      exact hj6
    · skip
      refine r_iconst (pc' := 17) (v := 1) hx (hd 8) (by decide) rfl ?_
      refine r_goto (tgt := 21) hx (hd 9) (by decide) ?_
      refine r_sub [] rfl ?_
      exact hj3 1
abbrev yX5_skipSign : MethodName := ({ cls := "CribbageRoom$Reader", name := "skipSign", desc := "(C)Z" } : Jvm.MethodName)
def tbX5_skipSign : List (Nat × Instr × Nat) := [(0, .aload_n 0, 1), (1, .iload_n 1, 1), (2, .invokevirtual 97, 3), (5, .ifCond .eq 14, 3), (8, .aload_n 0, 1), (9, .invokevirtual 46, 3), (12, .ifCond .eq 7, 3), (15, .iconst 1, 1), (16, .goto 4, 3), (19, .iconst 0, 1), (20, .ireturn, 1)]
theorem dX5_skipSign : ∀ q ∈ tbX5_skipSign, decode prog_7_method_15_code q.1 = .ok q.2 := by decide +kernel
set_option maxRecDepth 20000 in
theorem cX5_skipSign (l : Launch) (w : WX) (hL : Lay w) (t : Nat) (ht : Wat w t 5 0) (p1 : Int32) (M : Mem) : Ct l w yX5_skipSign prog_7_method_15_code 2 (Option.some FieldType.boolean) 8 205 evIM emM [.ref t, .int p1] M (FX5_skipSign t p1 M) := by
  refine ct_of (by decide) (Nat.le_of_ble_eq_true rfl) (fun x hl hx hb hz => ?_)
  subst hl
  have hd : ∀ i, DAt (xc x).code (tbX5_skipSign[i]?) := fun i => by rw [hb]; exact dat_of dX5_skipSign i
  show C x w (Qn x w evIM emM) 2 0 [(0, .ref t), (1, .int p1)] [] M (FX5_skipSign t p1 M)
  unfold FX5_skipSign
  refine r_aload_n (pc' := 1) hx (hd 0) rfl 0 rfl rfl ?_
  refine r_iload_n (pc' := 2) hx (hd 1) rfl 1 rfl rfl ?_
  refine r_callV (pc' := 5) (As := [.int p1]) (rest := []) hx (hd 2) md_X5_isSign mi_X5_isSign ms_X5_isSign ml_5_97 (cX5_isSign (xl x) w hL t ht p1 M) ht rfl (by decide) ⟨Nat.le_of_ble_eq_true rfl, Nat.le_of_ble_eq_true rfl⟩ rfl rfl (Nat.le_of_ble_eq_true rfl) (fun r1 => .int r1 :: []) (fun _ => M) (fun _ => ⟨rfl, rfl⟩) rfl (fun r1 _ => ?_)
  refine r_jn2 20 (fun v2 M3 => []) (fun v2 M3 => [.int v2]) (fun v2 M3 => M3) (fun v2 M3 => ?_) (fun j4 hj5 => ?_)
  · skip
    refine r_gd (fun h6 => ?_)
    exact r_zret hx (hd 10) h6 rfl rfl hz
  refine r_jn1 19 (fun M7 => []) (fun M7 => []) (fun M7 => M7) (fun M7 => ?_) (fun j8 hj9 => ?_)
  · skip
    refine r_iconst (pc' := 20) (v := 0) hx (hd 9) (by decide) rfl ?_
    exact hj5 0 M7
  refine r_if_eq (tgt := 19) (pc' := 8) hx (hd 3) (by decide) (fun _ => ?_) rfl (fun _ => ?_)
  · skip
    refine r_sub [] rfl ?_
    exact hj9 M
  · skip
    refine r_aload_n (pc' := 9) hx (hd 4) rfl 0 rfl rfl ?_
    refine r_callVI (pc' := 12) (As := []) (rest := []) hx (hd 5) md_X5_advance mi_X5_advance ms_X5_advance ml_5_46 (cX5_advance (xl x) w hL t ht M) ht rfl (by decide) ⟨Nat.le_of_ble_eq_true rfl, Nat.le_of_ble_eq_true rfl⟩ rfl rfl (Nat.le_of_ble_eq_true rfl) (fun r11 => .int r11 :: []) (fun _ => rfl) rfl (fun r11 M10 => ?_)
    refine r_if_eq (tgt := 19) (pc' := 15) hx (hd 6) (by decide) (fun _ => ?_) rfl (fun _ => ?_)
    · skip
      refine r_sub [] rfl ?_
      exact hj9 M10
    · skip
      refine r_iconst (pc' := 16) (v := 1) hx (hd 7) (by decide) rfl ?_
      refine r_goto (tgt := 20) hx (hd 8) (by decide) ?_
      refine r_sub [] rfl ?_
      exact hj5 1 M10
abbrev yX9_put : MethodName := ({ cls := "CribbageRoom$Text", name := "put", desc := "(II)I" } : Jvm.MethodName)
def tbX9_put : List (Nat × Instr × Nat) := [(0, .aload_n 0, 1), (1, .getfield 18, 3), (4, .istore_n 3, 1), (5, .aload_n 0, 1), (6, .getfield 18, 3), (9, .iconst 1, 1), (10, .iadd, 1), (11, .aload_n 0, 1), (12, .getfield 9, 3), (15, .arraylength, 1), (16, .if_icmp .ge 35, 3), (19, .aload_n 0, 1), (20, .getfield 9, 3), (23, .aload_n 0, 1), (24, .getfield 18, 3), (27, .iload_n 1, 1), (28, .iastore, 1), (29, .aload_n 0, 1), (30, .getfield 9, 3), (33, .aload_n 0, 1), (34, .getfield 18, 3), (37, .iconst 1, 1), (38, .iadd, 1), (39, .iload_n 2, 1), (40, .iastore, 1), (41, .aload_n 0, 1), (42, .dup, 1), (43, .getfield 18, 3), (46, .iconst 2, 1), (47, .iadd, 1), (48, .putfield 18, 3), (51, .iload_n 3, 1), (52, .ireturn, 1)]
theorem dX9_put : ∀ q ∈ tbX9_put, decode prog_11_method_5_code q.1 = .ok q.2 := by decide +kernel
set_option maxRecDepth 20000 in
theorem cX9_put (l : Launch) (w : WX) (hL : Lay w) (t : Nat) (ht : Wat w t 9 0) (p1 : Int32) (p2 : Int32) (M : Mem) : Ct l w yX9_put prog_11_method_5_code 4 (Option.some FieldType.int) 0 0 evIM emM [.ref t, .int p1, .int p2] M (FX9_put t p1 p2 M) := by
  refine ct_of (by decide) (Nat.le_of_ble_eq_true rfl) (fun x hl hx hb hz => ?_)
  subst hl
  have hd : ∀ i, DAt (xc x).code (tbX9_put[i]?) := fun i => by rw [hb]; exact dat_of dX9_put i
  show C x w (Qn x w evIM emM) 4 0 [(0, .ref t), (1, .int p1), (2, .int p2)] [] M (FX9_put t p1 p2 M)
  unfold FX9_put
  refine r_aload_n (pc' := 1) hx (hd 0) rfl 0 rfl rfl ?_
  refine r_get (pc' := 4) (v := .int (mI M t 2)) hx (hd 1) fl_9_18 ht rfl (by decide) rfl ?_
  refine r_nmI (fun v1 => ?_)
  refine r_istore_n (pc' := 5) (L' := [(3, .int v1), (0, .ref t), (1, .int p1), (2, .int p2)]) hx (hd 2) rfl (by decide) rfl rfl ?_
  refine r_aload_n (pc' := 6) hx (hd 3) rfl 1 rfl rfl ?_
  refine r_get (pc' := 9) (v := .int (mI M t 2)) hx (hd 4) fl_9_18 ht rfl (by decide) rfl ?_
  refine r_iconst (pc' := 10) (v := 1) hx (hd 5) (by decide) rfl ?_
  refine r_iadd (pc' := 11) hx (hd 6) rfl ?_
  refine r_aload_n (pc' := 12) hx (hd 7) rfl 1 rfl rfl ?_
  refine r_get (pc' := 15) (v := .ref (t + 1)) hx (hd 8) fl_9_9 ht rfl (by decide) rfl ?_
  have h2 := hL.1 _ _ _ ht 0 1 23 0 rfl
  refine r_alenD (pc' := 16) hx (hd 9) h2 rfl ?_
  refine r_jn1 51 (fun M3 => [(3, .int v1)]) (fun M3 => []) (fun M3 => M3) (fun M3 => ?_) (fun j4 hj5 => ?_)
  · skip
    refine r_iload_n (pc' := 52) hx (hd 31) rfl 0 rfl rfl ?_
    exact r_iret hx (hd 32) rfl rfl hz
  refine r_icmp_ge (tgt := 51) (pc' := 19) hx (hd 10) (by decide) (fun _ => ?_) rfl (fun _ => ?_)
  · skip
    refine r_sub [0] rfl ?_
    exact hj5 M
  · skip
    refine r_aload_n (pc' := 20) hx (hd 11) rfl 1 rfl rfl ?_
    refine r_get (pc' := 23) (v := .ref (t + 1)) hx (hd 12) fl_9_9 ht rfl (by decide) rfl ?_
    have h6 := hL.1 _ _ _ ht 0 1 23 0 rfl
    refine r_aload_n (pc' := 24) hx (hd 13) rfl 1 rfl rfl ?_
    refine r_get (pc' := 27) (v := .int (mI M t 2)) hx (hd 14) fl_9_18 ht rfl (by decide) rfl ?_
    refine r_iload_n (pc' := 28) hx (hd 15) rfl 2 rfl rfl ?_
    refine r_gd (fun h8 => ?_)
    refine r_iastD (pc' := 29) (k := ix (mI M t 2)) hx (hd 16) h6 h8 rfl rfl (fun M7 => ?_)
    refine r_aload_n (pc' := 30) hx (hd 17) rfl 1 rfl rfl ?_
    refine r_get (pc' := 33) (v := .ref (t + 1)) hx (hd 18) fl_9_9 ht rfl (by decide) rfl ?_
    have h9 := hL.1 _ _ _ ht 0 1 23 0 rfl
    refine r_aload_n (pc' := 34) hx (hd 19) rfl 1 rfl rfl ?_
    refine r_get (pc' := 37) (v := .int (mI M7 t 2)) hx (hd 20) fl_9_18 ht rfl (by decide) rfl ?_
    refine r_iconst (pc' := 38) (v := 1) hx (hd 21) (by decide) rfl ?_
    refine r_iadd (pc' := 39) hx (hd 22) rfl ?_
    refine r_iload_n (pc' := 40) hx (hd 23) rfl 3 rfl rfl ?_
    refine r_gd (fun h11 => ?_)
    refine r_iastD (pc' := 41) (k := ix ((mI M7 t 2) + 1)) hx (hd 24) h9 h11 rfl rfl (fun M10 => ?_)
    refine r_aload_n (pc' := 42) hx (hd 25) rfl 1 rfl rfl ?_
    refine r_dup (pc' := 43) hx (hd 26) rfl rfl ?_
    refine r_get (pc' := 46) (v := .int (mI M10 t 2)) hx (hd 27) fl_9_18 ht rfl (by decide) rfl ?_
    refine r_iconst (pc' := 47) (v := 2) hx (hd 28) (by decide) rfl ?_
    refine r_iadd (pc' := 48) hx (hd 29) rfl ?_
    refine r_putI (pc' := 51) hx (hd 30) fp_9_18 ht rfl (by decide) rfl (fun M12 => ?_)
    refine r_sub [0] rfl ?_
    exact hj5 M12
abbrev yX5_readLawWord : MethodName := ({ cls := "CribbageRoom$Reader", name := "readLawWord", desc := "()Z" } : Jvm.MethodName)
def tbX5_readLawWord : List (Nat × Instr × Nat) := [(0, .aload_n 0, 1), (1, .getfield 63, 3), (4, .bipush 10, 2), (6, .if_icmp .lt 12, 3), (9, .aload_n 0, 1), (10, .getfield 63, 3), (13, .bipush 15, 2), (15, .if_icmp .le 5, 3), (18, .iconst 0, 1), (19, .ireturn, 1), (20, .aload_n 0, 1), (21, .getfield 18, 3), (24, .aload_n 0, 1), (25, .getfield 18, 3), (28, .getfield 43, 3), (31, .ifCond .ne 21, 3), (34, .aload_n 0, 1), (35, .getfield 63, 3), (38, .bipush 10, 2), (40, .if_icmp .eq 12, 3), (43, .aload_n 0, 1), (44, .getfield 63, 3), (47, .bipush 15, 2), (49, .if_icmp .ne 7, 3), (52, .iconst 1, 1), (53, .goto 4, 3), (56, .iconst 0, 1), (57, .putfield 43, 3), (60, .aload_n 0, 1), (61, .getfield 18, 3), (64, .iconst 1, 1), (65, .aload_n 0, 1), (66, .getfield 63, 3), (69, .bipush 10, 2), (71, .isub, 1), (72, .invokevirtual 86, 3), (75, .pop, 1), (76, .aload_n 0, 1), (77, .invokevirtual 46, 3), (80, .ireturn, 1)]
theorem dX5_readLawWord : ∀ q ∈ tbX5_readLawWord, decode prog_7_method_12_code q.1 = .ok q.2 := by decide +kernel
set_option maxRecDepth 20000 in
theorem cX5_readLawWord (l : Launch) (w : WX) (hL : Lay w) (t : Nat) (ht : Wat w t 5 0) (M : Mem) : Ct l w yX5_readLawWord prog_7_method_12_code 1 (Option.some FieldType.boolean) 8 205 evIM emM [.ref t] M (FX5_readLawWord t M) := by
  refine ct_of (by decide) (Nat.le_of_ble_eq_true rfl) (fun x hl hx hb hz => ?_)
  subst hl
  have hd : ∀ i, DAt (xc x).code (tbX5_readLawWord[i]?) := fun i => by rw [hb]; exact dat_of dX5_readLawWord i
  show C x w (Qn x w evIM emM) 1 0 [(0, .ref t)] [] M (FX5_readLawWord t M)
  unfold FX5_readLawWord
  refine r_aload_n (pc' := 1) hx (hd 0) rfl 0 rfl rfl ?_
  refine r_get (pc' := 4) (v := .int (mI M t 9)) hx (hd 1) fl_5_63 ht rfl (by decide) rfl ?_
  refine r_bipush (pc' := 6) (v := 10) hx (hd 2) (by decide) rfl ?_
  refine r_jn0 18 ([]) ([]) (M) (?_) (fun j1 hj2 => ?_)
  · skip
    refine r_iconst (pc' := 19) (v := 0) hx (hd 8) (by decide) rfl ?_
    exact r_zret hx (hd 9) rfl rfl rfl hz
  refine r_icmp_lt (tgt := 18) (pc' := 9) hx (hd 3) (by decide) (fun _ => ?_) rfl (fun _ => ?_)
  · skip
    refine r_sub [] rfl ?_
    exact hj2
  · skip
    refine r_aload_n (pc' := 10) hx (hd 4) rfl 0 rfl rfl ?_
    refine r_get (pc' := 13) (v := .int (mI M t 9)) hx (hd 5) fl_5_63 ht rfl (by decide) rfl ?_
    refine r_bipush (pc' := 15) (v := 15) hx (hd 6) (by decide) rfl ?_
    refine r_icmp_le (tgt := 20) (pc' := 18) hx (hd 7) (by decide) (fun _ => ?_) rfl (fun _ => ?_)
    · skip
      refine r_aload_n (pc' := 21) hx (hd 10) rfl 0 rfl rfl ?_
      refine r_get (pc' := 24) (v := .ref (t + 2)) hx (hd 11) fl_5_18 ht rfl (by decide) rfl ?_
      have h3 := hL.1 _ _ _ ht 1 2 9 0 rfl
      refine r_aload_n (pc' := 25) hx (hd 12) rfl 0 rfl rfl ?_
      refine r_get (pc' := 28) (v := .ref (t + 2)) hx (hd 13) fl_5_18 ht rfl (by decide) rfl ?_
      have h4 := hL.1 _ _ _ ht 1 2 9 0 rfl
      refine r_get (pc' := 31) (v := .int (mI M (t + 2) 4)) hx (hd 14) fl_5_43 h4 rfl (by decide) rfl ?_
      refine r_jn1 57 (fun v5 => [(0, .ref t)]) (fun v5 => [.int v5, .ref (t + 2)]) (fun v5 => M) (fun v5 => ?_) (fun j6 hj7 => ?_)
      · skip
        refine r_gd (fun h9 => ?_)
        refine r_putZ (pc' := 60) hx (hd 27) fp_5_43 h3 rfl (by decide) h9 rfl (fun M8 => ?_)
        refine r_aload_n (pc' := 61) hx (hd 28) rfl 0 rfl rfl ?_
        refine r_get (pc' := 64) (v := .ref (t + 2)) hx (hd 29) fl_5_18 ht rfl (by decide) rfl ?_
        have h10 := hL.1 _ _ _ ht 1 2 9 0 rfl
        refine r_iconst (pc' := 65) (v := 1) hx (hd 30) (by decide) rfl ?_
        refine r_aload_n (pc' := 66) hx (hd 31) rfl 0 rfl rfl ?_
        refine r_get (pc' := 69) (v := .int (mI M8 t 9)) hx (hd 32) fl_5_63 ht rfl (by decide) rfl ?_
        refine r_bipush (pc' := 71) (v := 10) hx (hd 33) (by decide) rfl ?_
        refine r_isub (pc' := 72) hx (hd 34) rfl ?_
        refine r_callVI (pc' := 75) (As := [.int 1, .int ((mI M8 t 9) - 10)]) (rest := []) hx (hd 35) md_X9_put mi_X9_put ms_X9_put ml_5_86 (cX9_put (xl x) w hL (t + 2) h10 1 ((mI M8 t 9) - 10) M8) h10 rfl (by decide) ⟨Nat.le_of_ble_eq_true rfl, Nat.le_of_ble_eq_true rfl⟩ rfl rfl (Nat.le_of_ble_eq_true rfl) (fun r12 => .int r12 :: []) (fun _ => rfl) rfl (fun r12 M11 => ?_)
        refine r_pop (pc' := 76) hx (hd 36) rfl rfl ?_
        refine r_aload_n (pc' := 77) hx (hd 37) rfl 0 rfl rfl ?_
        refine r_callVI (pc' := 80) (As := []) (rest := []) hx (hd 38) md_X5_advance mi_X5_advance ms_X5_advance ml_5_46 (cX5_advance (xl x) w hL t ht M11) ht rfl (by decide) ⟨Nat.le_of_ble_eq_true rfl, Nat.le_of_ble_eq_true rfl⟩ rfl rfl (Nat.le_of_ble_eq_true rfl) (fun r14 => .int r14 :: []) (fun _ => rfl) rfl (fun r14 M13 => ?_)
        refine r_gd (fun h15 => ?_)
        exact r_zret hx (hd 39) h15 rfl rfl hz
      refine r_jn0 52 ([(0, .ref t)]) ([.ref (t + 2)]) (M) (?_) (fun j16 hj17 => ?_)
      · skip
        refine r_iconst (pc' := 53) (v := 1) hx (hd 24) (by decide) rfl ?_
        refine r_goto (tgt := 57) hx (hd 25) (by decide) ?_
        exact hj7 1
      refine r_if_ne (tgt := 52) (pc' := 34) hx (hd 15) (by decide) (fun _ => ?_) rfl (fun _ => ?_)
      · skip
        exact hj17
      · skip
        refine r_aload_n (pc' := 35) hx (hd 16) rfl 0 rfl rfl ?_
        refine r_get (pc' := 38) (v := .int (mI M t 9)) hx (hd 17) fl_5_63 ht rfl (by decide) rfl ?_
        refine r_bipush (pc' := 40) (v := 10) hx (hd 18) (by decide) rfl ?_
        refine r_icmp_eq (tgt := 52) (pc' := 43) hx (hd 19) (by decide) (fun _ => ?_) rfl (fun _ => ?_)
        · skip
          exact hj17
        · skip
          refine r_aload_n (pc' := 44) hx (hd 20) rfl 0 rfl rfl ?_
          refine r_get (pc' := 47) (v := .int (mI M t 9)) hx (hd 21) fl_5_63 ht rfl (by decide) rfl ?_
          refine r_bipush (pc' := 49) (v := 15) hx (hd 22) (by decide) rfl ?_
          refine r_icmp_ne (tgt := 56) (pc' := 52) hx (hd 23) (by decide) (fun _ => ?_) rfl (fun _ => ?_)
          · skip
            refine r_iconst (pc' := 57) (v := 0) hx (hd 26) (by decide) rfl ?_
            exact hj7 0
          · skip
            exact hj17
    · skip
      refine r_sub [] rfl ?_
      exact hj2
abbrev yX5_readOrdersWord : MethodName := ({ cls := "CribbageRoom$Reader", name := "readOrdersWord", desc := "()Z" } : Jvm.MethodName)
def tbX5_readOrdersWord : List (Nat × Instr × Nat) := [(0, .aload_n 0, 1), (1, .getfield 63, 3), (4, .bipush 16, 2), (6, .if_icmp .lt 12, 3), (9, .aload_n 0, 1), (10, .getfield 63, 3), (13, .bipush 22, 2), (15, .if_icmp .le 5, 3), (18, .iconst 0, 1), (19, .ireturn, 1), (20, .aload_n 0, 1), (21, .getfield 63, 3), (24, .bipush 16, 2), (26, .isub, 1), (27, .istore_n 1, 1), (28, .aload_n 0, 1), (29, .getfield 63, 3), (32, .bipush 21, 2), (34, .if_icmp .eq 12, 3), (37, .aload_n 0, 1), (38, .getfield 63, 3), (41, .bipush 22, 2), (43, .if_icmp .ne 65, 3), (46, .aload_n 0, 1), (47, .getfield 63, 3), (50, .bipush 21, 2), (52, .if_icmp .ne 7, 3), (55, .iconst 5, 1), (56, .goto 5, 3), (59, .bipush 7, 2), (61, .istore_n 2, 1), (62, .aload_n 0, 1), (63, .getfield 63, 3), (66, .bipush 21, 2), (68, .if_icmp .ne 7, 3), (71, .iconst 2, 1), (72, .goto 5, 3), (75, .bipush 12, 2), (77, .istore_n 3, 1), (78, .aload_n 0, 1), (79, .invokevirtual 46, 3), (82, .pop, 1), (83, .aload_n 0, 1), (84, .getfield 57, 3), (87, .iconst 2, 1), (88, .if_icmp .ne 11, 3), (91, .aload_n 0, 1), (92, .getfield 63, 3), (95, .iload_n 3, 1), (96, .if_icmp .lt 5, 3), (99, .iconst 0, 1), (100, .ireturn, 1), (101, .iload_n 2, 1), (102, .aload_n 0, 1), (103, .getfield 63, 3), (106, .iadd, 1), (107, .istore_n 1, 1), (108, .aload_n 0, 1), (109, .getfield 18, 3), (112, .iconst 1, 1), (113, .iload_n 1, 1), (114, .invokevirtual 86, 3), (117, .pop, 1), (118, .aload_n 0, 1), (119, .invokevirtual 46, 3), (122, .ireturn, 1)]
theorem dX5_readOrdersWord : ∀ q ∈ tbX5_readOrdersWord, decode prog_7_method_13_code q.1 = .ok q.2 := by decide +kernel
set_option maxRecDepth 20000 in
theorem cX5_readOrdersWord (l : Launch) (w : WX) (hL : Lay w) (t : Nat) (ht : Wat w t 5 0) (M : Mem) : Ct l w yX5_readOrdersWord prog_7_method_13_code 4 (Option.some FieldType.boolean) 8 205 evIM emM [.ref t] M (FX5_readOrdersWord t M) := by
  refine ct_of (by decide) (Nat.le_of_ble_eq_true rfl) (fun x hl hx hb hz => ?_)
  subst hl
  have hd : ∀ i, DAt (xc x).code (tbX5_readOrdersWord[i]?) := fun i => by rw [hb]; exact dat_of dX5_readOrdersWord i
  show C x w (Qn x w evIM emM) 4 0 [(0, .ref t)] [] M (FX5_readOrdersWord t M)
  unfold FX5_readOrdersWord
  refine r_aload_n (pc' := 1) hx (hd 0) rfl 0 rfl rfl ?_
  refine r_get (pc' := 4) (v := .int (mI M t 9)) hx (hd 1) fl_5_63 ht rfl (by decide) rfl ?_
  refine r_bipush (pc' := 6) (v := 16) hx (hd 2) (by decide) rfl ?_
  refine r_jn0 18 ([]) ([]) (M) (?_) (fun j1 hj2 => ?_)
  · skip
    refine r_iconst (pc' := 19) (v := 0) hx (hd 8) (by decide) rfl ?_
    exact r_zret hx (hd 9) rfl rfl rfl hz
  refine r_icmp_lt (tgt := 18) (pc' := 9) hx (hd 3) (by decide) (fun _ => ?_) rfl (fun _ => ?_)
  · skip
    refine r_sub [] rfl ?_
    exact hj2
  · skip
    refine r_aload_n (pc' := 10) hx (hd 4) rfl 0 rfl rfl ?_
    refine r_get (pc' := 13) (v := .int (mI M t 9)) hx (hd 5) fl_5_63 ht rfl (by decide) rfl ?_
    refine r_bipush (pc' := 15) (v := 22) hx (hd 6) (by decide) rfl ?_
    refine r_icmp_le (tgt := 20) (pc' := 18) hx (hd 7) (by decide) (fun _ => ?_) rfl (fun _ => ?_)
    · skip
      refine r_aload_n (pc' := 21) hx (hd 10) rfl 0 rfl rfl ?_
      refine r_get (pc' := 24) (v := .int (mI M t 9)) hx (hd 11) fl_5_63 ht rfl (by decide) rfl ?_
      refine r_bipush (pc' := 26) (v := 16) hx (hd 12) (by decide) rfl ?_
      refine r_isub (pc' := 27) hx (hd 13) rfl ?_
      refine r_nmI (fun v3 => ?_)
      refine r_istore_n (pc' := 28) (L' := [(1, .int v3), (0, .ref t)]) hx (hd 14) rfl (by decide) rfl rfl ?_
      refine r_aload_n (pc' := 29) hx (hd 15) rfl 1 rfl rfl ?_
      refine r_get (pc' := 32) (v := .int (mI M t 9)) hx (hd 16) fl_5_63 ht rfl (by decide) rfl ?_
      refine r_bipush (pc' := 34) (v := 21) hx (hd 17) (by decide) rfl ?_
      refine r_jn2 108 (fun v4 M5 => [(0, .ref t), (1, .int v4)]) (fun v4 M5 => []) (fun v4 M5 => M5) (fun v4 M5 => ?_) (fun j6 hj7 => ?_)
      · skip
        refine r_aload_n (pc' := 109) hx (hd 57) rfl 0 rfl rfl ?_
        refine r_get (pc' := 112) (v := .ref (t + 2)) hx (hd 58) fl_5_18 ht rfl (by decide) rfl ?_
        have h8 := hL.1 _ _ _ ht 1 2 9 0 rfl
        refine r_iconst (pc' := 113) (v := 1) hx (hd 59) (by decide) rfl ?_
        refine r_iload_n (pc' := 114) hx (hd 60) rfl 1 rfl rfl ?_
        refine r_callVI (pc' := 117) (As := [.int 1, .int v4]) (rest := []) hx (hd 61) md_X9_put mi_X9_put ms_X9_put ml_5_86 (cX9_put (xl x) w hL (t + 2) h8 1 v4 M5) h8 rfl (by decide) ⟨Nat.le_of_ble_eq_true rfl, Nat.le_of_ble_eq_true rfl⟩ rfl rfl (Nat.le_of_ble_eq_true rfl) (fun r10 => .int r10 :: []) (fun _ => rfl) rfl (fun r10 M9 => ?_)
        refine r_pop (pc' := 118) hx (hd 62) rfl rfl ?_
        refine r_aload_n (pc' := 119) hx (hd 63) rfl 0 rfl rfl ?_
        refine r_callVI (pc' := 122) (As := []) (rest := []) hx (hd 64) md_X5_advance mi_X5_advance ms_X5_advance ml_5_46 (cX5_advance (xl x) w hL t ht M9) ht rfl (by decide) ⟨Nat.le_of_ble_eq_true rfl, Nat.le_of_ble_eq_true rfl⟩ rfl rfl (Nat.le_of_ble_eq_true rfl) (fun r12 => .int r12 :: []) (fun _ => rfl) rfl (fun r12 M11 => ?_)
        refine r_gd (fun h13 => ?_)
        exact r_zret hx (hd 65) h13 rfl rfl hz
      refine r_jn0 46 ([(0, .ref t)]) ([]) (M) (?_) (fun j14 hj15 => ?_)
      · skip
        refine r_aload_n (pc' := 47) hx (hd 23) rfl 0 rfl rfl ?_
        refine r_get (pc' := 50) (v := .int (mI M t 9)) hx (hd 24) fl_5_63 ht rfl (by decide) rfl ?_
        refine r_bipush (pc' := 52) (v := 21) hx (hd 25) (by decide) rfl ?_
        refine r_jn1 61 (fun v16 => [(0, .ref t)]) (fun v16 => [.int v16]) (fun v16 => M) (fun v16 => ?_) (fun j17 hj18 => ?_)
        · skip
          refine r_istore_n (pc' := 62) (L' := [(2, .int v16), (0, .ref t)]) hx (hd 30) rfl (by decide) rfl rfl ?_
          refine r_aload_n (pc' := 63) hx (hd 31) rfl 1 rfl rfl ?_
          refine r_get (pc' := 66) (v := .int (mI M t 9)) hx (hd 32) fl_5_63 ht rfl (by decide) rfl ?_
          refine r_bipush (pc' := 68) (v := 21) hx (hd 33) (by decide) rfl ?_
          refine r_jn1 77 (fun v19 => [(0, .ref t), (2, .int v16)]) (fun v19 => [.int v19]) (fun v19 => M) (fun v19 => ?_) (fun j20 hj21 => ?_)
          · skip
            refine r_istore_n (pc' := 78) (L' := [(3, .int v19), (0, .ref t), (2, .int v16)]) hx (hd 38) rfl (by decide) rfl rfl ?_
            refine r_aload_n (pc' := 79) hx (hd 39) rfl 1 rfl rfl ?_
            refine r_callVI (pc' := 82) (As := []) (rest := []) hx (hd 40) md_X5_advance mi_X5_advance ms_X5_advance ml_5_46 (cX5_advance (xl x) w hL t ht M) ht rfl (by decide) ⟨Nat.le_of_ble_eq_true rfl, Nat.le_of_ble_eq_true rfl⟩ rfl rfl (Nat.le_of_ble_eq_true rfl) (fun r23 => .int r23 :: []) (fun _ => rfl) rfl (fun r23 M22 => ?_)
            refine r_pop (pc' := 83) hx (hd 41) rfl rfl ?_
            refine r_aload_n (pc' := 84) hx (hd 42) rfl 1 rfl rfl ?_
            refine r_get (pc' := 87) (v := .int (mI M22 t 8)) hx (hd 43) fl_5_57 ht rfl (by decide) rfl ?_
            refine r_iconst (pc' := 88) (v := 2) hx (hd 44) (by decide) rfl ?_
            refine r_jn0 99 ([]) ([]) (M22) (?_) (fun j24 hj25 => ?_)
            · skip
              refine r_iconst (pc' := 100) (v := 0) hx (hd 50) (by decide) rfl ?_
              exact r_zret hx (hd 51) rfl rfl rfl hz
            refine r_icmp_ne (tgt := 99) (pc' := 91) hx (hd 45) (by decide) (fun _ => ?_) rfl (fun _ => ?_)
            · skip
              refine r_sub [] rfl ?_
              exact hj25
            · skip
              refine r_aload_n (pc' := 92) hx (hd 46) rfl 1 rfl rfl ?_
              refine r_get (pc' := 95) (v := .int (mI M22 t 9)) hx (hd 47) fl_5_63 ht rfl (by decide) rfl ?_
              refine r_iload_n (pc' := 96) hx (hd 48) rfl 0 rfl rfl ?_
              refine r_icmp_lt (tgt := 101) (pc' := 99) hx (hd 49) (by decide) (fun _ => ?_) rfl (fun _ => ?_)
              · skip
                refine r_iload_n (pc' := 102) hx (hd 52) rfl 2 rfl rfl ?_
                refine r_aload_n (pc' := 103) hx (hd 53) rfl 1 rfl rfl ?_
                refine r_get (pc' := 106) (v := .int (mI M22 t 9)) hx (hd 54) fl_5_63 ht rfl (by decide) rfl ?_
                refine r_iadd (pc' := 107) hx (hd 55) rfl ?_
                refine r_nmI (fun v26 => ?_)
                refine r_istore_n (pc' := 108) (L' := [(1, .int v26), (3, .int v19), (0, .ref t), (2, .int v16)]) hx (hd 56) rfl (by decide) rfl rfl ?_
                refine r_sub [2, 0] rfl ?_
                exact hj7 v26 M22
              · skip
                refine r_sub [] rfl ?_
                exact hj25
          refine r_icmp_ne (tgt := 75) (pc' := 71) hx (hd 34) (by decide) (fun _ => ?_) rfl (fun _ => ?_)
          · skip
            refine r_bipush (pc' := 77) (v := 12) hx (hd 37) (by decide) rfl ?_
            refine r_sub [1, 0] rfl ?_
            exact hj21 12
          · skip
            refine r_iconst (pc' := 72) (v := 2) hx (hd 35) (by decide) rfl ?_
            refine r_goto (tgt := 77) hx (hd 36) (by decide) ?_
            refine r_sub [1, 0] rfl ?_
            exact hj21 2
        refine r_icmp_ne (tgt := 59) (pc' := 55) hx (hd 26) (by decide) (fun _ => ?_) rfl (fun _ => ?_)
        · skip
          refine r_bipush (pc' := 61) (v := 7) hx (hd 29) (by decide) rfl ?_
          exact hj18 7
        · skip
          refine r_iconst (pc' := 56) (v := 5) hx (hd 27) (by decide) rfl ?_
          refine r_goto (tgt := 61) hx (hd 28) (by decide) ?_
          exact hj18 5
      refine r_icmp_eq (tgt := 46) (pc' := 37) hx (hd 18) (by decide) (fun _ => ?_) rfl (fun _ => ?_)
      · skip
        refine r_sub [1] rfl ?_
        exact hj15
      · skip
        refine r_aload_n (pc' := 38) hx (hd 19) rfl 1 rfl rfl ?_
        refine r_get (pc' := 41) (v := .int (mI M t 9)) hx (hd 20) fl_5_63 ht rfl (by decide) rfl ?_
        refine r_bipush (pc' := 43) (v := 22) hx (hd 21) (by decide) rfl ?_
        refine r_icmp_ne (tgt := 108) (pc' := 46) hx (hd 22) (by decide) (fun _ => ?_) rfl (fun _ => ?_)
        · skip
          refine r_sub [1, 0] rfl ?_
          exact hj7 v3 M
        · skip
          refine r_sub [1] rfl ?_
          exact hj15
    · skip
      refine r_sub [] rfl ?_
      exact hj2
abbrev yX5_readPart : MethodName := ({ cls := "CribbageRoom$Reader", name := "readPart", desc := "(I)Z" } : Jvm.MethodName)
def tbX5_readPart : List (Nat × Instr × Nat) := [(0, .aload_n 0, 1), (1, .bipush 91, 2), (3, .invokevirtual 97, 3), (6, .ifCond .eq 41, 3), (9, .iload_n 1, 1), (10, .bipush 8, 2), (12, .if_icmp .ge 33, 3), (15, .aload_n 0, 1), (16, .invokevirtual 46, 3), (19, .ifCond .eq 26, 3), (22, .aload_n 0, 1), (23, .iload_n 1, 1), (24, .iconst 1, 1), (25, .iadd, 1), (26, .invokevirtual 70, 3), (29, .ifCond .eq 16, 3), (32, .aload_n 0, 1), (33, .bipush 93, 2), (35, .invokevirtual 53, 3), (38, .ifCond .eq 7, 3), (41, .iconst 1, 1), (42, .goto 4, 3), (45, .iconst 0, 1), (46, .ireturn, 1), (47, .aload_n 0, 1), (48, .getfield 33, 3), (51, .bipush 50, 2), (53, .if_icmp .lt 5, 3), (56, .iconst 0, 1), (57, .ireturn, 1), (58, .aload_n 0, 1), (59, .dup, 1), (60, .getfield 33, 3), (63, .iconst 1, 1), (64, .iadd, 1), (65, .putfield 33, 3), (68, .aload_n 0, 1), (69, .getfield 57, 3), (72, .iconst 2, 1), (73, .if_icmp .ne 31, 3), (76, .aload_n 0, 1), (77, .getfield 63, 3), (80, .sipush 1000, 3), (83, .if_icmp .gt 21, 3), (86, .aload_n 0, 1), (87, .getfield 18, 3), (90, .iconst 0, 1), (91, .aload_n 0, 1), (92, .getfield 63, 3), (95, .invokevirtual 86, 3), (98, .pop, 1), (99, .aload_n 0, 1), (100, .invokevirtual 46, 3), (103, .ireturn, 1), (104, .aload_n 0, 1), (105, .getfield 57, 3), (108, .iconst 1, 1), (109, .if_icmp .ne 31, 3), (112, .aload_n 0, 1), (113, .getfield 29, 3), (116, .ifCond .eq 13, 3), (119, .aload_n 0, 1), (120, .invokevirtual 106, 3), (123, .ifCond .eq 17, 3), (126, .goto 10, 3), (129, .aload_n 0, 1), (130, .invokevirtual 109, 3), (133, .ifCond .eq 7, 3), (136, .iconst 1, 1), (137, .goto 4, 3), (140, .iconst 0, 1), (141, .ireturn, 1)]
theorem dX5_readPart : ∀ q ∈ tbX5_readPart, decode prog_7_method_11_code q.1 = .ok q.2 := by decide +kernel
set_option maxRecDepth 20000 in
theorem cX5_readPart (l : Launch) (w : WX) (hL : Lay w) (t : Nat) (ht : Wat w t 5 0) (p1 : Int32) (rS : Nat → Int32 → Mem → Option (Int32 × Mem)) (frS loS : Nat) (hS : ∀ (t : Nat) (_ : Wat w t 5 0) (p1 : Int32) (M : Mem), Ct l w ({ cls := "CribbageRoom$Reader", name := "readSum", desc := "(I)Z" } : Jvm.MethodName) prog_7_method_9_code 5 (Option.some FieldType.boolean) frS loS evIM emM [.ref t, .int p1] M (rS t p1 M)) (M : Mem) : Ct l w yX5_readPart prog_7_method_11_code 2 (Option.some FieldType.boolean) (frS + 9) (loS + 228) evIM emM [.ref t, .int p1] M (FX5_readPart t p1 rS M) := by
  refine ct_of (by decide) (Nat.le_of_ble_eq_true rfl) (fun x hl hx hb hz => ?_)
  subst hl
  have hd : ∀ i, DAt (xc x).code (tbX5_readPart[i]?) := fun i => by rw [hb]; exact dat_of dX5_readPart i
  show C x w (Qn x w evIM emM) 2 0 [(0, .ref t), (1, .int p1)] [] M (FX5_readPart t p1 rS M)
  unfold FX5_readPart
  refine r_aload_n (pc' := 1) hx (hd 0) rfl 0 rfl rfl ?_
  refine r_bipush (pc' := 3) (v := 91) hx (hd 1) (by decide) rfl ?_
  refine r_callV (pc' := 6) (As := [.int 91]) (rest := []) hx (hd 2) md_X5_isSign mi_X5_isSign ms_X5_isSign ml_5_97 (cX5_isSign (xl x) w hL t ht 91 M) ht rfl (by decide) ⟨by omega, by omega⟩ rfl rfl (Nat.le_of_ble_eq_true rfl) (fun r1 => .int r1 :: []) (fun _ => M) (fun _ => ⟨rfl, rfl⟩) rfl (fun r1 _ => ?_)
  refine r_if_eq (tgt := 47) (pc' := 9) hx (hd 3) (by decide) (fun _ => ?_) rfl (fun _ => ?_)
  · skip
    refine r_aload_n (pc' := 48) hx (hd 24) rfl 0 rfl rfl ?_
    refine r_get (pc' := 51) (v := .int (mI M t 5)) hx (hd 25) fl_5_33 ht rfl (by decide) rfl ?_
    refine r_bipush (pc' := 53) (v := 50) hx (hd 26) (by decide) rfl ?_
    refine r_icmp_lt (tgt := 58) (pc' := 56) hx (hd 27) (by decide) (fun _ => ?_) rfl (fun _ => ?_)
    · skip
      refine r_aload_n (pc' := 59) hx (hd 30) rfl 0 rfl rfl ?_
      refine r_dup (pc' := 60) hx (hd 31) rfl rfl ?_
      refine r_get (pc' := 63) (v := .int (mI M t 5)) hx (hd 32) fl_5_33 ht rfl (by decide) rfl ?_
      refine r_iconst (pc' := 64) (v := 1) hx (hd 33) (by decide) rfl ?_
      refine r_iadd (pc' := 65) hx (hd 34) rfl ?_
      refine r_putI (pc' := 68) hx (hd 35) fp_5_33 ht rfl (by decide) rfl (fun M2 => ?_)
      refine r_aload_n (pc' := 69) hx (hd 36) rfl 0 rfl rfl ?_
      refine r_get (pc' := 72) (v := .int (mI M2 t 8)) hx (hd 37) fl_5_57 ht rfl (by decide) rfl ?_
      refine r_iconst (pc' := 73) (v := 2) hx (hd 38) (by decide) rfl ?_
      refine r_jn0 104 ([(0, .ref t)]) ([]) (M2) (?_) (fun j3 hj4 => ?_)
      · skip
        refine r_aload_n (pc' := 105) hx (hd 54) rfl 0 rfl rfl ?_
        refine r_get (pc' := 108) (v := .int (mI M2 t 8)) hx (hd 55) fl_5_57 ht rfl (by decide) rfl ?_
        refine r_iconst (pc' := 109) (v := 1) hx (hd 56) (by decide) rfl ?_
        refine r_jn2 141 (fun v5 M6 => []) (fun v5 M6 => [.int v5]) (fun v5 M6 => M6) (fun v5 M6 => ?_) (fun j7 hj8 => ?_)
        · skip
          refine r_gd (fun h9 => ?_)
          exact r_zret hx (hd 71) h9 rfl rfl hz
        refine r_jn1 140 (fun M10 => []) (fun M10 => []) (fun M10 => M10) (fun M10 => ?_) (fun j11 hj12 => ?_)
        · skip
          refine r_iconst (pc' := 141) (v := 0) hx (hd 70) (by decide) rfl ?_
          exact hj8 0 M10
        refine r_icmp_ne (tgt := 140) (pc' := 112) hx (hd 57) (by decide) (fun _ => ?_) rfl (fun _ => ?_)
        · skip
          refine r_sub [] rfl ?_
          exact hj12 M2
        · skip
          refine r_aload_n (pc' := 113) hx (hd 58) rfl 0 rfl rfl ?_
          refine r_get (pc' := 116) (v := .int (mI M2 t 4)) hx (hd 59) fl_5_29 ht rfl (by decide) rfl ?_
          refine r_jn1 136 (fun M13 => []) (fun M13 => []) (fun M13 => M13) (fun M13 => ?_) (fun j14 hj15 => ?_)
          · skip
            refine r_iconst (pc' := 137) (v := 1) hx (hd 68) (by decide) rfl ?_
            refine r_goto (tgt := 141) hx (hd 69) (by decide) ?_
            exact hj8 1 M13
          refine r_if_eq (tgt := 129) (pc' := 119) hx (hd 60) (by decide) (fun _ => ?_) rfl (fun _ => ?_)
          · skip
            refine r_aload_n (pc' := 130) hx (hd 65) rfl 0 rfl rfl ?_
            refine r_callVI (pc' := 133) (As := []) (rest := []) hx (hd 66) md_X5_readOrdersWord mi_X5_readOrdersWord ms_X5_readOrdersWord ml_5_109 (cX5_readOrdersWord (xl x) w hL t ht M2) ht rfl (by decide) ⟨by omega, by omega⟩ rfl rfl (Nat.le_of_ble_eq_true rfl) (fun r17 => .int r17 :: []) (fun _ => rfl) rfl (fun r17 M16 => ?_)
            refine r_if_eq (tgt := 140) (pc' := 136) hx (hd 67) (by decide) (fun _ => ?_) rfl (fun _ => ?_)
            · skip
              refine r_sub [] rfl ?_
              exact hj12 M16
            · skip
              refine r_sub [] rfl ?_
              exact hj15 M16
          · skip
            refine r_aload_n (pc' := 120) hx (hd 61) rfl 0 rfl rfl ?_
            refine r_callVI (pc' := 123) (As := []) (rest := []) hx (hd 62) md_X5_readLawWord mi_X5_readLawWord ms_X5_readLawWord ml_5_106 (cX5_readLawWord (xl x) w hL t ht M2) ht rfl (by decide) ⟨by omega, by omega⟩ rfl rfl (Nat.le_of_ble_eq_true rfl) (fun r19 => .int r19 :: []) (fun _ => rfl) rfl (fun r19 M18 => ?_)
            refine r_if_eq (tgt := 140) (pc' := 126) hx (hd 63) (by decide) (fun _ => ?_) rfl (fun _ => ?_)
            · skip
              refine r_sub [] rfl ?_
              exact hj12 M18
            · skip
              refine r_goto (tgt := 136) hx (hd 64) (by decide) ?_
              refine r_sub [] rfl ?_
              exact hj15 M18
      refine r_icmp_ne (tgt := 104) (pc' := 76) hx (hd 39) (by decide) (fun _ => ?_) rfl (fun _ => ?_)
      · skip
        refine r_sub [0] rfl ?_
        exact hj4
      · skip
        refine r_aload_n (pc' := 77) hx (hd 40) rfl 0 rfl rfl ?_
        refine r_get (pc' := 80) (v := .int (mI M2 t 9)) hx (hd 41) fl_5_63 ht rfl (by decide) rfl ?_
        refine r_sipush (pc' := 83) (v := 1000) hx (hd 42) (by decide) rfl ?_
        refine r_icmp_gt (tgt := 104) (pc' := 86) hx (hd 43) (by decide) (fun _ => ?_) rfl (fun _ => ?_)
        · skip
          refine r_sub [0] rfl ?_
          exact hj4
        · skip
          refine r_aload_n (pc' := 87) hx (hd 44) rfl 0 rfl rfl ?_
          refine r_get (pc' := 90) (v := .ref (t + 2)) hx (hd 45) fl_5_18 ht rfl (by decide) rfl ?_
          have h20 := hL.1 _ _ _ ht 1 2 9 0 rfl
          refine r_iconst (pc' := 91) (v := 0) hx (hd 46) (by decide) rfl ?_
          refine r_aload_n (pc' := 92) hx (hd 47) rfl 0 rfl rfl ?_
          refine r_get (pc' := 95) (v := .int (mI M2 t 9)) hx (hd 48) fl_5_63 ht rfl (by decide) rfl ?_
          refine r_callVI (pc' := 98) (As := [.int 0, .int (mI M2 t 9)]) (rest := []) hx (hd 49) md_X9_put mi_X9_put ms_X9_put ml_5_86 (cX9_put (xl x) w hL (t + 2) h20 0 (mI M2 t 9) M2) h20 rfl (by decide) ⟨by omega, by omega⟩ rfl rfl (Nat.le_of_ble_eq_true rfl) (fun r22 => .int r22 :: []) (fun _ => rfl) rfl (fun r22 M21 => ?_)
          refine r_pop (pc' := 99) hx (hd 50) rfl rfl ?_
          refine r_aload_n (pc' := 100) hx (hd 51) rfl 0 rfl rfl ?_
          refine r_callVI (pc' := 103) (As := []) (rest := []) hx (hd 52) md_X5_advance mi_X5_advance ms_X5_advance ml_5_46 (cX5_advance (xl x) w hL t ht M21) ht rfl (by decide) ⟨by omega, by omega⟩ rfl rfl (Nat.le_of_ble_eq_true rfl) (fun r24 => .int r24 :: []) (fun _ => rfl) rfl (fun r24 M23 => ?_)
          refine r_gd (fun h25 => ?_)
          exact r_zret hx (hd 53) h25 rfl rfl hz
    · skip
      refine r_iconst (pc' := 57) (v := 0) hx (hd 28) (by decide) rfl ?_
      exact r_zret hx (hd 29) rfl rfl rfl hz
  · skip
    refine r_iload_n (pc' := 10) hx (hd 4) rfl 1 rfl rfl ?_
    refine r_bipush (pc' := 12) (v := 8) hx (hd 5) (by decide) rfl ?_
    refine r_jn2 46 (fun v26 M27 => []) (fun v26 M27 => [.int v26]) (fun v26 M27 => M27) (fun v26 M27 => ?_) (fun j28 hj29 => ?_)
    · skip
      refine r_gd (fun h30 => ?_)
      exact r_zret hx (hd 23) h30 rfl rfl hz
    refine r_jn1 45 (fun M31 => []) (fun M31 => []) (fun M31 => M31) (fun M31 => ?_) (fun j32 hj33 => ?_)
    · skip
      refine r_iconst (pc' := 46) (v := 0) hx (hd 22) (by decide) rfl ?_
      exact hj29 0 M31
    refine r_icmp_ge (tgt := 45) (pc' := 15) hx (hd 6) (by decide) (fun _ => ?_) rfl (fun _ => ?_)
    · skip
      refine r_sub [] rfl ?_
      exact hj33 M
    · skip
      refine r_aload_n (pc' := 16) hx (hd 7) rfl 0 rfl rfl ?_
      refine r_callVI (pc' := 19) (As := []) (rest := []) hx (hd 8) md_X5_advance mi_X5_advance ms_X5_advance ml_5_46 (cX5_advance (xl x) w hL t ht M) ht rfl (by decide) ⟨by omega, by omega⟩ rfl rfl (Nat.le_of_ble_eq_true rfl) (fun r35 => .int r35 :: []) (fun _ => rfl) rfl (fun r35 M34 => ?_)
      refine r_if_eq (tgt := 45) (pc' := 22) hx (hd 9) (by decide) (fun _ => ?_) rfl (fun _ => ?_)
      · skip
        refine r_sub [] rfl ?_
        exact hj33 M34
      · skip
        refine r_aload_n (pc' := 23) hx (hd 10) rfl 0 rfl rfl ?_
        refine r_iload_n (pc' := 24) hx (hd 11) rfl 1 rfl rfl ?_
        refine r_iconst (pc' := 25) (v := 1) hx (hd 12) (by decide) rfl ?_
        refine r_iadd (pc' := 26) hx (hd 13) rfl ?_
        refine r_callVI (pc' := 29) (As := [.int (p1 + 1)]) (rest := []) hx (hd 14) md_X5_readSum mi_X5_readSum ms_X5_readSum ml_5_70 (hS t ht (p1 + 1) M34) ht rfl (by decide) ⟨by omega, by omega⟩ rfl rfl (Nat.le_of_ble_eq_true rfl) (fun r37 => .int r37 :: []) (fun _ => rfl) rfl (fun r37 M36 => ?_)
        refine r_if_eq (tgt := 45) (pc' := 32) hx (hd 15) (by decide) (fun _ => ?_) rfl (fun _ => ?_)
        · skip
          refine r_sub [] rfl ?_
          exact hj33 M36
        · skip
          refine r_aload_n (pc' := 33) hx (hd 16) rfl 0 rfl rfl ?_
          refine r_bipush (pc' := 35) (v := 93) hx (hd 17) (by decide) rfl ?_
          refine r_callVI (pc' := 38) (As := [.int 93]) (rest := []) hx (hd 18) md_X5_skipSign mi_X5_skipSign ms_X5_skipSign ml_5_53 (cX5_skipSign (xl x) w hL t ht 93 M36) ht rfl (by decide) ⟨by omega, by omega⟩ rfl rfl (Nat.le_of_ble_eq_true rfl) (fun r39 => .int r39 :: []) (fun _ => rfl) rfl (fun r39 M38 => ?_)
          refine r_if_eq (tgt := 45) (pc' := 41) hx (hd 19) (by decide) (fun _ => ?_) rfl (fun _ => ?_)
          · skip
            refine r_sub [] rfl ?_
            exact hj33 M38
          · skip
            refine r_iconst (pc' := 42) (v := 1) hx (hd 20) (by decide) rfl ?_
            refine r_goto (tgt := 46) hx (hd 21) (by decide) ?_
            refine r_sub [] rfl ?_
            exact hj29 1 M38
abbrev yX5_readTerm : MethodName := ({ cls := "CribbageRoom$Reader", name := "readTerm", desc := "(I)Z" } : Jvm.MethodName)
def tbX5_readTerm : List (Nat × Instr × Nat) := [(0, .aload_n 0, 1), (1, .iload_n 1, 1), (2, .invokevirtual 103, 3), (5, .istore_n 2, 1), (6, .iconst 0, 1), (7, .istore_n 3, 1), (8, .iload_n 3, 1), (9, .sipush 400, 3), (12, .if_icmp .ge 92, 3), (15, .iload_n 2, 1), (16, .ifCond .eq 88, 3), (19, .aload_n 0, 1), (20, .bipush 42, 2), (22, .invokevirtual 97, 3), (25, .ifCond .ne 21, 3), (28, .aload_n 0, 1), (29, .bipush 47, 2), (31, .invokevirtual 97, 3), (34, .ifCond .ne 12, 3), (37, .aload_n 0, 1), (38, .bipush 37, 2), (40, .invokevirtual 97, 3), (43, .ifCond .eq 61, 3), (46, .aload_n 0, 1), (47, .bipush 42, 2), (49, .invokevirtual 97, 3), (52, .ifCond .eq 7, 3), (55, .iconst 4, 1), (56, .goto 18, 3), (59, .aload_n 0, 1), (60, .bipush 47, 2), (62, .invokevirtual 97, 3), (65, .ifCond .eq 7, 3), (68, .iconst 5, 1), (69, .goto 5, 3), (72, .bipush 6, 2), (74, .istore 4, 2), (76, .aload_n 0, 1), (77, .invokevirtual 46, 3), (80, .pop, 1), (81, .aload_n 0, 1), (82, .iload_n 1, 1), (83, .invokevirtual 103, 3), (86, .istore_n 2, 1), (87, .aload_n 0, 1), (88, .getfield 18, 3), (91, .iload 4, 2), (93, .iconst 0, 1), (94, .invokevirtual 86, 3), (97, .pop, 1), (98, .iinc 3 1, 3), (101, .goto (-93), 3), (104, .iload_n 2, 1), (105, .ireturn, 1)]
theorem dX5_readTerm : ∀ q ∈ tbX5_readTerm, decode prog_7_method_10_code q.1 = .ok q.2 := by decide +kernel
set_option maxRecDepth 20000 in
theorem cX5_readTerm (l : Launch) (w : WX) (hL : Lay w) (t : Nat) (ht : Wat w t 5 0) (p1 : Int32) (rS : Nat → Int32 → Mem → Option (Int32 × Mem)) (frS loS : Nat) (hS : ∀ (t : Nat) (_ : Wat w t 5 0) (p1 : Int32) (M : Mem), Ct l w ({ cls := "CribbageRoom$Reader", name := "readSum", desc := "(I)Z" } : Jvm.MethodName) prog_7_method_9_code 5 (Option.some FieldType.boolean) frS loS evIM emM [.ref t, .int p1] M (rS t p1 M)) (M : Mem) : Ct l w yX5_readTerm prog_7_method_10_code 5 (Option.some FieldType.boolean) (frS + 10) (loS + 249) evIM emM [.ref t, .int p1] M (FX5_readTerm t p1 rS M) := by
  refine ct_of (by decide) (Nat.le_of_ble_eq_true rfl) (fun x hl hx hb hz => ?_)
  subst hl
  have hd : ∀ i, DAt (xc x).code (tbX5_readTerm[i]?) := fun i => by rw [hb]; exact dat_of dX5_readTerm i
  show C x w (Qn x w evIM emM) 5 0 [(0, .ref t), (1, .int p1)] [] M (FX5_readTerm t p1 rS M)
  unfold FX5_readTerm
  refine r_aload_n (pc' := 1) hx (hd 0) rfl 0 rfl rfl ?_
  refine r_iload_n (pc' := 2) hx (hd 1) rfl 1 rfl rfl ?_
  refine r_callVI (pc' := 5) (As := [.int p1]) (rest := []) hx (hd 2) md_X5_readPart mi_X5_readPart ms_X5_readPart ml_5_103 (cX5_readPart (xl x) w hL t ht p1 rS frS loS hS M) ht rfl (by decide) ⟨by omega, by omega⟩ rfl rfl (Nat.le_of_ble_eq_true rfl) (fun r2 => .int r2 :: []) (fun _ => rfl) rfl (fun r2 M1 => ?_)
  refine r_istore_n (pc' := 6) (L' := [(2, .int r2), (0, .ref t), (1, .int p1)]) hx (hd 3) rfl (by decide) rfl rfl ?_
  refine r_iconst (pc' := 7) (v := 0) hx (hd 4) (by decide) rfl ?_
  refine r_istore_n (pc' := 8) (L' := [(3, .int 0), (2, .int r2), (0, .ref t), (1, .int p1)]) hx (hd 5) rfl (by decide) rfl rfl ?_
  refine r_sub [2, 3, 1, 0] rfl ?_
  refine r_wl3 (fun v3 v4 M5 => [(0, .ref t), (1, .int p1), (2, .int v3), (3, .int v4)]) (fun v3 v4 M5 => []) (fun v3 v4 M5 => M5) (fun v3 v4 M5 rec6 ih7 => ?_) fuel r2 0 M1
  refine r_iload_n (pc' := 9) hx (hd 6) rfl 3 rfl rfl ?_
  refine r_sipush (pc' := 12) (v := 400) hx (hd 7) (by decide) rfl ?_
  refine r_jn0 104 ([(2, .int v3)]) ([]) (M5) (?_) (fun j8 hj9 => ?_)
  · skip
    refine r_iload_n (pc' := 105) hx (hd 52) rfl 0 rfl rfl ?_
    refine r_gd (fun h10 => ?_)
    exact r_zret hx (hd 53) h10 rfl rfl hz
  refine r_icmp_ge (tgt := 104) (pc' := 15) hx (hd 8) (by decide) (fun _ => ?_) rfl (fun _ => ?_)
  · skip
    refine r_sub [2] rfl ?_
    exact hj9
  · skip
    refine r_iload_n (pc' := 16) hx (hd 9) rfl 2 rfl rfl ?_
    refine r_if_eq (tgt := 104) (pc' := 19) hx (hd 10) (by decide) (fun _ => ?_) rfl (fun _ => ?_)
    · skip
      refine r_sub [2] rfl ?_
      exact hj9
    · skip
      refine r_aload_n (pc' := 20) hx (hd 11) rfl 0 rfl rfl ?_
      refine r_bipush (pc' := 22) (v := 42) hx (hd 12) (by decide) rfl ?_
      refine r_callV (pc' := 25) (As := [.int 42]) (rest := []) hx (hd 13) md_X5_isSign mi_X5_isSign ms_X5_isSign ml_5_97 (cX5_isSign (xl x) w hL t ht 42 M5) ht rfl (by decide) ⟨by omega, by omega⟩ rfl rfl (Nat.le_of_ble_eq_true rfl) (fun r11 => .int r11 :: []) (fun _ => M5) (fun _ => ⟨rfl, rfl⟩) rfl (fun r11 _ => ?_)
      refine r_jn0 46 ([(0, .ref t), (1, .int p1), (3, .int v4)]) ([]) (M5) (?_) (fun j12 hj13 => ?_)
      · skip
        refine r_aload_n (pc' := 47) hx (hd 23) rfl 0 rfl rfl ?_
        refine r_bipush (pc' := 49) (v := 42) hx (hd 24) (by decide) rfl ?_
        refine r_callV (pc' := 52) (As := [.int 42]) (rest := []) hx (hd 25) md_X5_isSign mi_X5_isSign ms_X5_isSign ml_5_97 (cX5_isSign (xl x) w hL t ht 42 M5) ht rfl (by decide) ⟨by omega, by omega⟩ rfl rfl (Nat.le_of_ble_eq_true rfl) (fun r14 => .int r14 :: []) (fun _ => M5) (fun _ => ⟨rfl, rfl⟩) rfl (fun r14 _ => ?_)
        refine r_jn1 74 (fun v15 => [(0, .ref t), (1, .int p1), (3, .int v4)]) (fun v15 => [.int v15]) (fun v15 => M5) (fun v15 => ?_) (fun j16 hj17 => ?_)
        · skip
          refine r_istore (pc' := 76) (L' := [(4, .int v15), (0, .ref t), (1, .int p1), (3, .int v4)]) hx (hd 36) (by decide) rfl rfl ?_
          refine r_aload_n (pc' := 77) hx (hd 37) rfl 1 rfl rfl ?_
          refine r_callVI (pc' := 80) (As := []) (rest := []) hx (hd 38) md_X5_advance mi_X5_advance ms_X5_advance ml_5_46 (cX5_advance (xl x) w hL t ht M5) ht rfl (by decide) ⟨by omega, by omega⟩ rfl rfl (Nat.le_of_ble_eq_true rfl) (fun r19 => .int r19 :: []) (fun _ => rfl) rfl (fun r19 M18 => ?_)
          refine r_pop (pc' := 81) hx (hd 39) rfl rfl ?_
          refine r_aload_n (pc' := 82) hx (hd 40) rfl 1 rfl rfl ?_
          refine r_iload_n (pc' := 83) hx (hd 41) rfl 2 rfl rfl ?_
          refine r_callVI (pc' := 86) (As := [.int p1]) (rest := []) hx (hd 42) md_X5_readPart mi_X5_readPart ms_X5_readPart ml_5_103 (cX5_readPart (xl x) w hL t ht p1 rS frS loS hS M18) ht rfl (by decide) ⟨by omega, by omega⟩ rfl rfl (Nat.le_of_ble_eq_true rfl) (fun r21 => .int r21 :: []) (fun _ => rfl) rfl (fun r21 M20 => ?_)
          refine r_istore_n (pc' := 87) (L' := [(2, .int r21), (4, .int v15), (0, .ref t), (1, .int p1), (3, .int v4)]) hx (hd 43) rfl (by decide) rfl rfl ?_
          refine r_aload_n (pc' := 88) hx (hd 44) rfl 2 rfl rfl ?_
          refine r_get (pc' := 91) (v := .ref (t + 2)) hx (hd 45) fl_5_18 ht rfl (by decide) rfl ?_
          have h22 := hL.1 _ _ _ ht 1 2 9 0 rfl
          refine r_iload (pc' := 93) hx (hd 46) 1 rfl rfl ?_
          refine r_iconst (pc' := 94) (v := 0) hx (hd 47) (by decide) rfl ?_
          refine r_callVI (pc' := 97) (As := [.int v15, .int 0]) (rest := []) hx (hd 48) md_X9_put mi_X9_put ms_X9_put ml_5_86 (cX9_put (xl x) w hL (t + 2) h22 v15 0 M20) h22 rfl (by decide) ⟨by omega, by omega⟩ rfl rfl (Nat.le_of_ble_eq_true rfl) (fun r24 => .int r24 :: []) (fun _ => rfl) rfl (fun r24 M23 => ?_)
          refine r_pop (pc' := 98) hx (hd 49) rfl rfl ?_
          refine r_iinc (pc' := 101) (v := 1) hx (hd 50) 4 rfl (by decide) (by decide) (fun v25 => [(3, .int v25), (2, .int r21), (4, .int v15), (0, .ref t), (1, .int p1)]) (fun _ => rfl) rfl (fun v25 => ?_)
          refine r_goto (tgt := 8) hx (hd 51) (by decide) ?_
          refine r_sub [3, 4, 1, 0] rfl ?_
          exact ih7 r21 v25 M23
        refine r_if_eq (tgt := 59) (pc' := 55) hx (hd 26) (by decide) (fun _ => ?_) rfl (fun _ => ?_)
        · skip
          refine r_aload_n (pc' := 60) hx (hd 29) rfl 0 rfl rfl ?_
          refine r_bipush (pc' := 62) (v := 47) hx (hd 30) (by decide) rfl ?_
          refine r_callV (pc' := 65) (As := [.int 47]) (rest := []) hx (hd 31) md_X5_isSign mi_X5_isSign ms_X5_isSign ml_5_97 (cX5_isSign (xl x) w hL t ht 47 M5) ht rfl (by decide) ⟨by omega, by omega⟩ rfl rfl (Nat.le_of_ble_eq_true rfl) (fun r26 => .int r26 :: []) (fun _ => M5) (fun _ => ⟨rfl, rfl⟩) rfl (fun r26 _ => ?_)
          refine r_if_eq (tgt := 72) (pc' := 68) hx (hd 32) (by decide) (fun _ => ?_) rfl (fun _ => ?_)
          · skip
            refine r_bipush (pc' := 74) (v := 6) hx (hd 35) (by decide) rfl ?_
            exact hj17 6
          · skip
            refine r_iconst (pc' := 69) (v := 5) hx (hd 33) (by decide) rfl ?_
            refine r_goto (tgt := 74) hx (hd 34) (by decide) ?_
            exact hj17 5
        · skip
          refine r_iconst (pc' := 56) (v := 4) hx (hd 27) (by decide) rfl ?_
          refine r_goto (tgt := 74) hx (hd 28) (by decide) ?_
          exact hj17 4
      refine r_if_ne (tgt := 46) (pc' := 28) hx (hd 14) (by decide) (fun _ => ?_) rfl (fun _ => ?_)
      · skip
        refine r_sub [0, 1, 3] rfl ?_
        exact hj13
      · skip
        refine r_aload_n (pc' := 29) hx (hd 15) rfl 0 rfl rfl ?_
        refine r_bipush (pc' := 31) (v := 47) hx (hd 16) (by decide) rfl ?_
        refine r_callV (pc' := 34) (As := [.int 47]) (rest := []) hx (hd 17) md_X5_isSign mi_X5_isSign ms_X5_isSign ml_5_97 (cX5_isSign (xl x) w hL t ht 47 M5) ht rfl (by decide) ⟨by omega, by omega⟩ rfl rfl (Nat.le_of_ble_eq_true rfl) (fun r27 => .int r27 :: []) (fun _ => M5) (fun _ => ⟨rfl, rfl⟩) rfl (fun r27 _ => ?_)
        refine r_if_ne (tgt := 46) (pc' := 37) hx (hd 18) (by decide) (fun _ => ?_) rfl (fun _ => ?_)
        · skip
          refine r_sub [0, 1, 3] rfl ?_
          exact hj13
        · skip
          refine r_aload_n (pc' := 38) hx (hd 19) rfl 0 rfl rfl ?_
          refine r_bipush (pc' := 40) (v := 37) hx (hd 20) (by decide) rfl ?_
          refine r_callV (pc' := 43) (As := [.int 37]) (rest := []) hx (hd 21) md_X5_isSign mi_X5_isSign ms_X5_isSign ml_5_97 (cX5_isSign (xl x) w hL t ht 37 M5) ht rfl (by decide) ⟨by omega, by omega⟩ rfl rfl (Nat.le_of_ble_eq_true rfl) (fun r28 => .int r28 :: []) (fun _ => M5) (fun _ => ⟨rfl, rfl⟩) rfl (fun r28 _ => ?_)
          refine r_if_eq (tgt := 104) (pc' := 46) hx (hd 22) (by decide) (fun _ => ?_) rfl (fun _ => ?_)
          · skip
            refine r_sub [2] rfl ?_
            exact hj9
          · skip
            refine r_sub [0, 1, 3] rfl ?_
            exact hj13
abbrev yX5_readSum : MethodName := ({ cls := "CribbageRoom$Reader", name := "readSum", desc := "(I)Z" } : Jvm.MethodName)
def tbX5_readSum : List (Nat × Instr × Nat) := [(0, .aload_n 0, 1), (1, .iload_n 1, 1), (2, .invokevirtual 100, 3), (5, .istore_n 2, 1), (6, .iconst 0, 1), (7, .istore_n 3, 1), (8, .iload_n 3, 1), (9, .sipush 400, 3), (12, .if_icmp .ge 69, 3), (15, .iload_n 2, 1), (16, .ifCond .eq 65, 3), (19, .aload_n 0, 1), (20, .bipush 43, 2), (22, .invokevirtual 97, 3), (25, .ifCond .ne 12, 3), (28, .aload_n 0, 1), (29, .bipush 45, 2), (31, .invokevirtual 97, 3), (34, .ifCond .eq 47, 3), (37, .aload_n 0, 1), (38, .bipush 43, 2), (40, .invokevirtual 97, 3), (43, .ifCond .eq 7, 3), (46, .iconst 2, 1), (47, .goto 4, 3), (50, .iconst 3, 1), (51, .istore 4, 2), (53, .aload_n 0, 1), (54, .invokevirtual 46, 3), (57, .pop, 1), (58, .aload_n 0, 1), (59, .iload_n 1, 1), (60, .invokevirtual 100, 3), (63, .istore_n 2, 1), (64, .aload_n 0, 1), (65, .getfield 18, 3), (68, .iload 4, 2), (70, .iconst 0, 1), (71, .invokevirtual 86, 3), (74, .pop, 1), (75, .iinc 3 1, 3), (78, .goto (-70), 3), (81, .iload_n 2, 1), (82, .ireturn, 1)]
theorem dX5_readSum : ∀ q ∈ tbX5_readSum, decode prog_7_method_9_code q.1 = .ok q.2 := by decide +kernel
set_option maxRecDepth 20000 in
theorem cX5_readSum (l : Launch) (w : WX) (hL : Lay w) (t : Nat) (ht : Wat w t 5 0) (p1 : Int32) (rS : Nat → Int32 → Mem → Option (Int32 × Mem)) (frS loS : Nat) (hS : ∀ (t : Nat) (_ : Wat w t 5 0) (p1 : Int32) (M : Mem), Ct l w ({ cls := "CribbageRoom$Reader", name := "readSum", desc := "(I)Z" } : Jvm.MethodName) prog_7_method_9_code 5 (Option.some FieldType.boolean) frS loS evIM emM [.ref t, .int p1] M (rS t p1 M)) (M : Mem) : Ct l w yX5_readSum prog_7_method_9_code 5 (Option.some FieldType.boolean) (frS + 11) (loS + 273) evIM emM [.ref t, .int p1] M (FX5_readSum t p1 rS M) := by
  refine ct_of (by decide) (Nat.le_of_ble_eq_true rfl) (fun x hl hx hb hz => ?_)
  subst hl
  have hd : ∀ i, DAt (xc x).code (tbX5_readSum[i]?) := fun i => by rw [hb]; exact dat_of dX5_readSum i
  show C x w (Qn x w evIM emM) 5 0 [(0, .ref t), (1, .int p1)] [] M (FX5_readSum t p1 rS M)
  unfold FX5_readSum
  refine r_aload_n (pc' := 1) hx (hd 0) rfl 0 rfl rfl ?_
  refine r_iload_n (pc' := 2) hx (hd 1) rfl 1 rfl rfl ?_
  refine r_callVI (pc' := 5) (As := [.int p1]) (rest := []) hx (hd 2) md_X5_readTerm mi_X5_readTerm ms_X5_readTerm ml_5_100 (cX5_readTerm (xl x) w hL t ht p1 rS frS loS hS M) ht rfl (by decide) ⟨by omega, by omega⟩ rfl rfl (Nat.le_of_ble_eq_true rfl) (fun r2 => .int r2 :: []) (fun _ => rfl) rfl (fun r2 M1 => ?_)
  refine r_istore_n (pc' := 6) (L' := [(2, .int r2), (0, .ref t), (1, .int p1)]) hx (hd 3) rfl (by decide) rfl rfl ?_
  refine r_iconst (pc' := 7) (v := 0) hx (hd 4) (by decide) rfl ?_
  refine r_istore_n (pc' := 8) (L' := [(3, .int 0), (2, .int r2), (0, .ref t), (1, .int p1)]) hx (hd 5) rfl (by decide) rfl rfl ?_
  refine r_sub [2, 3, 1, 0] rfl ?_
  refine r_wl3 (fun v3 v4 M5 => [(0, .ref t), (1, .int p1), (2, .int v3), (3, .int v4)]) (fun v3 v4 M5 => []) (fun v3 v4 M5 => M5) (fun v3 v4 M5 rec6 ih7 => ?_) fuel r2 0 M1
  refine r_iload_n (pc' := 9) hx (hd 6) rfl 3 rfl rfl ?_
  refine r_sipush (pc' := 12) (v := 400) hx (hd 7) (by decide) rfl ?_
  refine r_jn0 81 ([(2, .int v3)]) ([]) (M5) (?_) (fun j8 hj9 => ?_)
  · skip
    refine r_iload_n (pc' := 82) hx (hd 42) rfl 0 rfl rfl ?_
    refine r_gd (fun h10 => ?_)
    exact r_zret hx (hd 43) h10 rfl rfl hz
  refine r_icmp_ge (tgt := 81) (pc' := 15) hx (hd 8) (by decide) (fun _ => ?_) rfl (fun _ => ?_)
  · skip
    refine r_sub [2] rfl ?_
    exact hj9
  · skip
    refine r_iload_n (pc' := 16) hx (hd 9) rfl 2 rfl rfl ?_
    refine r_if_eq (tgt := 81) (pc' := 19) hx (hd 10) (by decide) (fun _ => ?_) rfl (fun _ => ?_)
    · skip
      refine r_sub [2] rfl ?_
      exact hj9
    · skip
      refine r_aload_n (pc' := 20) hx (hd 11) rfl 0 rfl rfl ?_
      refine r_bipush (pc' := 22) (v := 43) hx (hd 12) (by decide) rfl ?_
      refine r_callV (pc' := 25) (As := [.int 43]) (rest := []) hx (hd 13) md_X5_isSign mi_X5_isSign ms_X5_isSign ml_5_97 (cX5_isSign (xl x) w hL t ht 43 M5) ht rfl (by decide) ⟨by omega, by omega⟩ rfl rfl (Nat.le_of_ble_eq_true rfl) (fun r11 => .int r11 :: []) (fun _ => M5) (fun _ => ⟨rfl, rfl⟩) rfl (fun r11 _ => ?_)
      refine r_jn0 37 ([(0, .ref t), (1, .int p1), (3, .int v4)]) ([]) (M5) (?_) (fun j12 hj13 => ?_)
      · skip
        refine r_aload_n (pc' := 38) hx (hd 19) rfl 0 rfl rfl ?_
        refine r_bipush (pc' := 40) (v := 43) hx (hd 20) (by decide) rfl ?_
        refine r_callV (pc' := 43) (As := [.int 43]) (rest := []) hx (hd 21) md_X5_isSign mi_X5_isSign ms_X5_isSign ml_5_97 (cX5_isSign (xl x) w hL t ht 43 M5) ht rfl (by decide) ⟨by omega, by omega⟩ rfl rfl (Nat.le_of_ble_eq_true rfl) (fun r14 => .int r14 :: []) (fun _ => M5) (fun _ => ⟨rfl, rfl⟩) rfl (fun r14 _ => ?_)
        refine r_jn1 51 (fun v15 => [(0, .ref t), (1, .int p1), (3, .int v4)]) (fun v15 => [.int v15]) (fun v15 => M5) (fun v15 => ?_) (fun j16 hj17 => ?_)
        · skip
          refine r_istore (pc' := 53) (L' := [(4, .int v15), (0, .ref t), (1, .int p1), (3, .int v4)]) hx (hd 26) (by decide) rfl rfl ?_
          refine r_aload_n (pc' := 54) hx (hd 27) rfl 1 rfl rfl ?_
          refine r_callVI (pc' := 57) (As := []) (rest := []) hx (hd 28) md_X5_advance mi_X5_advance ms_X5_advance ml_5_46 (cX5_advance (xl x) w hL t ht M5) ht rfl (by decide) ⟨by omega, by omega⟩ rfl rfl (Nat.le_of_ble_eq_true rfl) (fun r19 => .int r19 :: []) (fun _ => rfl) rfl (fun r19 M18 => ?_)
          refine r_pop (pc' := 58) hx (hd 29) rfl rfl ?_
          refine r_aload_n (pc' := 59) hx (hd 30) rfl 1 rfl rfl ?_
          refine r_iload_n (pc' := 60) hx (hd 31) rfl 2 rfl rfl ?_
          refine r_callVI (pc' := 63) (As := [.int p1]) (rest := []) hx (hd 32) md_X5_readTerm mi_X5_readTerm ms_X5_readTerm ml_5_100 (cX5_readTerm (xl x) w hL t ht p1 rS frS loS hS M18) ht rfl (by decide) ⟨by omega, by omega⟩ rfl rfl (Nat.le_of_ble_eq_true rfl) (fun r21 => .int r21 :: []) (fun _ => rfl) rfl (fun r21 M20 => ?_)
          refine r_istore_n (pc' := 64) (L' := [(2, .int r21), (4, .int v15), (0, .ref t), (1, .int p1), (3, .int v4)]) hx (hd 33) rfl (by decide) rfl rfl ?_
          refine r_aload_n (pc' := 65) hx (hd 34) rfl 2 rfl rfl ?_
          refine r_get (pc' := 68) (v := .ref (t + 2)) hx (hd 35) fl_5_18 ht rfl (by decide) rfl ?_
          have h22 := hL.1 _ _ _ ht 1 2 9 0 rfl
          refine r_iload (pc' := 70) hx (hd 36) 1 rfl rfl ?_
          refine r_iconst (pc' := 71) (v := 0) hx (hd 37) (by decide) rfl ?_
          refine r_callVI (pc' := 74) (As := [.int v15, .int 0]) (rest := []) hx (hd 38) md_X9_put mi_X9_put ms_X9_put ml_5_86 (cX9_put (xl x) w hL (t + 2) h22 v15 0 M20) h22 rfl (by decide) ⟨by omega, by omega⟩ rfl rfl (Nat.le_of_ble_eq_true rfl) (fun r24 => .int r24 :: []) (fun _ => rfl) rfl (fun r24 M23 => ?_)
          refine r_pop (pc' := 75) hx (hd 39) rfl rfl ?_
          refine r_iinc (pc' := 78) (v := 1) hx (hd 40) 4 rfl (by decide) (by decide) (fun v25 => [(3, .int v25), (2, .int r21), (4, .int v15), (0, .ref t), (1, .int p1)]) (fun _ => rfl) rfl (fun v25 => ?_)
          refine r_goto (tgt := 8) hx (hd 41) (by decide) ?_
          refine r_sub [3, 4, 1, 0] rfl ?_
          exact ih7 r21 v25 M23
        refine r_if_eq (tgt := 50) (pc' := 46) hx (hd 22) (by decide) (fun _ => ?_) rfl (fun _ => ?_)
        · skip
          refine r_iconst (pc' := 51) (v := 3) hx (hd 25) (by decide) rfl ?_
          exact hj17 3
        · skip
          refine r_iconst (pc' := 47) (v := 2) hx (hd 23) (by decide) rfl ?_
          refine r_goto (tgt := 51) hx (hd 24) (by decide) ?_
          exact hj17 2
      refine r_if_ne (tgt := 37) (pc' := 28) hx (hd 14) (by decide) (fun _ => ?_) rfl (fun _ => ?_)
      · skip
        refine r_sub [0, 1, 3] rfl ?_
        exact hj13
      · skip
        refine r_aload_n (pc' := 29) hx (hd 15) rfl 0 rfl rfl ?_
        refine r_bipush (pc' := 31) (v := 45) hx (hd 16) (by decide) rfl ?_
        refine r_callV (pc' := 34) (As := [.int 45]) (rest := []) hx (hd 17) md_X5_isSign mi_X5_isSign ms_X5_isSign ml_5_97 (cX5_isSign (xl x) w hL t ht 45 M5) ht rfl (by decide) ⟨by omega, by omega⟩ rfl rfl (Nat.le_of_ble_eq_true rfl) (fun r26 => .int r26 :: []) (fun _ => M5) (fun _ => ⟨rfl, rfl⟩) rfl (fun r26 _ => ?_)
        refine r_if_eq (tgt := 81) (pc' := 37) hx (hd 18) (by decide) (fun _ => ?_) rfl (fun _ => ?_)
        · skip
          refine r_sub [2] rfl ?_
          exact hj9
        · skip
          refine r_sub [0, 1, 3] rfl ?_
          exact hj13
theorem gX5_readSum (l : Launch) (w : WX) (hL : Lay w) : ∀ (n : Nat) (t : Nat) (ht : Wat w t 5 0) (p1 : Int32) (M : Mem), Ct l w yX5_readSum prog_7_method_9_code 5 (Option.some FieldType.boolean) (11 * n) (273 * n) evIM emM [.ref t, .int p1] M (GX5_readSum n t p1 M)
  | 0, _, _, _, _ => fun _ h => by cases h
  | n + 1, t, ht, p1, M => cX5_readSum l w hL t ht p1 (GX5_readSum n) (11 * n) (273 * n) (gX5_readSum l w hL n) M
theorem cX5_readSumR (l : Launch) (w : WX) (hL : Lay w) (t : Nat) (ht : Wat w t 5 0) (p1 : Int32) (M : Mem) : Ct l w yX5_readSum prog_7_method_9_code 5 (Option.some FieldType.boolean) 110 2730 evIM emM [.ref t, .int p1] M (FX5_readSumR t p1 M) := gX5_readSum l w hL 10 t ht p1 M
abbrev yX5_skipWord : MethodName := ({ cls := "CribbageRoom$Reader", name := "skipWord", desc := "(I)Z" } : Jvm.MethodName)
def tbX5_skipWord : List (Nat × Instr × Nat) := [(0, .aload_n 0, 1), (1, .getfield 57, 3), (4, .iconst 1, 1), (5, .if_icmp .ne 22, 3), (8, .aload_n 0, 1), (9, .getfield 63, 3), (12, .iload_n 1, 1), (13, .if_icmp .ne 14, 3), (16, .aload_n 0, 1), (17, .invokevirtual 46, 3), (20, .ifCond .eq 7, 3), (23, .iconst 1, 1), (24, .goto 4, 3), (27, .iconst 0, 1), (28, .ireturn, 1)]
theorem dX5_skipWord : ∀ q ∈ tbX5_skipWord, decode prog_7_method_16_code q.1 = .ok q.2 := by decide +kernel
set_option maxRecDepth 20000 in
theorem cX5_skipWord (l : Launch) (w : WX) (hL : Lay w) (t : Nat) (ht : Wat w t 5 0) (p1 : Int32) (M : Mem) : Ct l w yX5_skipWord prog_7_method_16_code 2 (Option.some FieldType.boolean) 8 205 evIM emM [.ref t, .int p1] M (FX5_skipWord t p1 M) := by
  refine ct_of (by decide) (Nat.le_of_ble_eq_true rfl) (fun x hl hx hb hz => ?_)
  subst hl
  have hd : ∀ i, DAt (xc x).code (tbX5_skipWord[i]?) := fun i => by rw [hb]; exact dat_of dX5_skipWord i
  show C x w (Qn x w evIM emM) 2 0 [(0, .ref t), (1, .int p1)] [] M (FX5_skipWord t p1 M)
  unfold FX5_skipWord
  refine r_aload_n (pc' := 1) hx (hd 0) rfl 0 rfl rfl ?_
  refine r_get (pc' := 4) (v := .int (mI M t 8)) hx (hd 1) fl_5_57 ht rfl (by decide) rfl ?_
  refine r_iconst (pc' := 5) (v := 1) hx (hd 2) (by decide) rfl ?_
  refine r_jn2 28 (fun v1 M2 => []) (fun v1 M2 => [.int v1]) (fun v1 M2 => M2) (fun v1 M2 => ?_) (fun j3 hj4 => ?_)
  · skip
    refine r_gd (fun h5 => ?_)
    exact r_zret hx (hd 14) h5 rfl rfl hz
  refine r_jn1 27 (fun M6 => []) (fun M6 => []) (fun M6 => M6) (fun M6 => ?_) (fun j7 hj8 => ?_)
  · skip
    refine r_iconst (pc' := 28) (v := 0) hx (hd 13) (by decide) rfl ?_
    exact hj4 0 M6
  refine r_icmp_ne (tgt := 27) (pc' := 8) hx (hd 3) (by decide) (fun _ => ?_) rfl (fun _ => ?_)
  · skip
    refine r_sub [] rfl ?_
    exact hj8 M
  · skip
    refine r_aload_n (pc' := 9) hx (hd 4) rfl 0 rfl rfl ?_
    refine r_get (pc' := 12) (v := .int (mI M t 9)) hx (hd 5) fl_5_63 ht rfl (by decide) rfl ?_
    refine r_iload_n (pc' := 13) hx (hd 6) rfl 1 rfl rfl ?_
    refine r_icmp_ne (tgt := 27) (pc' := 16) hx (hd 7) (by decide) (fun _ => ?_) rfl (fun _ => ?_)
    · skip
      refine r_sub [] rfl ?_
      exact hj8 M
    · skip
      refine r_aload_n (pc' := 17) hx (hd 8) rfl 0 rfl rfl ?_
      refine r_callVI (pc' := 20) (As := []) (rest := []) hx (hd 9) md_X5_advance mi_X5_advance ms_X5_advance ml_5_46 (cX5_advance (xl x) w hL t ht M) ht rfl (by decide) ⟨Nat.le_of_ble_eq_true rfl, Nat.le_of_ble_eq_true rfl⟩ rfl rfl (Nat.le_of_ble_eq_true rfl) (fun r10 => .int r10 :: []) (fun _ => rfl) rfl (fun r10 M9 => ?_)
      refine r_if_eq (tgt := 27) (pc' := 23) hx (hd 10) (by decide) (fun _ => ?_) rfl (fun _ => ?_)
      · skip
        refine r_sub [] rfl ?_
        exact hj8 M9
      · skip
        refine r_iconst (pc' := 24) (v := 1) hx (hd 11) (by decide) rfl ?_
        refine r_goto (tgt := 28) hx (hd 12) (by decide) ?_
        refine r_sub [] rfl ?_
        exact hj4 1 M9
abbrev yX5_readTimes : MethodName := ({ cls := "CribbageRoom$Reader", name := "readTimes", desc := "()Z" } : Jvm.MethodName)
def tbX5_readTimes : List (Nat × Instr × Nat) := [(0, .aload_n 0, 1), (1, .getfield 57, 3), (4, .iconst 2, 1), (5, .if_icmp .ne 20, 3), (8, .aload_n 0, 1), (9, .getfield 63, 3), (12, .iconst 1, 1), (13, .if_icmp .lt 12, 3), (16, .aload_n 0, 1), (17, .getfield 63, 3), (20, .bipush 20, 2), (22, .if_icmp .le 5, 3), (25, .iconst 0, 1), (26, .ireturn, 1), (27, .aload_n 0, 1), (28, .getfield 18, 3), (31, .iconst 1, 1), (32, .aload_n 0, 1), (33, .getfield 63, 3), (36, .invokevirtual 66, 3), (39, .aload_n 0, 1), (40, .invokevirtual 46, 3), (43, .ireturn, 1)]
theorem dX5_readTimes : ∀ q ∈ tbX5_readTimes, decode prog_7_method_5_code q.1 = .ok q.2 := by decide +kernel
set_option maxRecDepth 20000 in
theorem cX5_readTimes (l : Launch) (w : WX) (hL : Lay w) (t : Nat) (ht : Wat w t 5 0) (M : Mem) : Ct l w yX5_readTimes prog_7_method_5_code 1 (Option.some FieldType.boolean) 8 205 evIM emM [.ref t] M (FX5_readTimes t M) := by
  refine ct_of (by decide) (Nat.le_of_ble_eq_true rfl) (fun x hl hx hb hz => ?_)
  subst hl
  have hd : ∀ i, DAt (xc x).code (tbX5_readTimes[i]?) := fun i => by rw [hb]; exact dat_of dX5_readTimes i
  show C x w (Qn x w evIM emM) 1 0 [(0, .ref t)] [] M (FX5_readTimes t M)
  unfold FX5_readTimes
  refine r_aload_n (pc' := 1) hx (hd 0) rfl 0 rfl rfl ?_
  refine r_get (pc' := 4) (v := .int (mI M t 8)) hx (hd 1) fl_5_57 ht rfl (by decide) rfl ?_
  refine r_iconst (pc' := 5) (v := 2) hx (hd 2) (by decide) rfl ?_
  refine r_jn0 25 ([]) ([]) (M) (?_) (fun j1 hj2 => ?_)
  · skip
    refine r_iconst (pc' := 26) (v := 0) hx (hd 12) (by decide) rfl ?_
    exact r_zret hx (hd 13) rfl rfl rfl hz
  refine r_icmp_ne (tgt := 25) (pc' := 8) hx (hd 3) (by decide) (fun _ => ?_) rfl (fun _ => ?_)
  · skip
    refine r_sub [] rfl ?_
    exact hj2
  · skip
    refine r_aload_n (pc' := 9) hx (hd 4) rfl 0 rfl rfl ?_
    refine r_get (pc' := 12) (v := .int (mI M t 9)) hx (hd 5) fl_5_63 ht rfl (by decide) rfl ?_
    refine r_iconst (pc' := 13) (v := 1) hx (hd 6) (by decide) rfl ?_
    refine r_icmp_lt (tgt := 25) (pc' := 16) hx (hd 7) (by decide) (fun _ => ?_) rfl (fun _ => ?_)
    · skip
      refine r_sub [] rfl ?_
      exact hj2
    · skip
      refine r_aload_n (pc' := 17) hx (hd 8) rfl 0 rfl rfl ?_
      refine r_get (pc' := 20) (v := .int (mI M t 9)) hx (hd 9) fl_5_63 ht rfl (by decide) rfl ?_
      refine r_bipush (pc' := 22) (v := 20) hx (hd 10) (by decide) rfl ?_
      refine r_icmp_le (tgt := 27) (pc' := 25) hx (hd 11) (by decide) (fun _ => ?_) rfl (fun _ => ?_)
      · skip
        refine r_aload_n (pc' := 28) hx (hd 14) rfl 0 rfl rfl ?_
        refine r_get (pc' := 31) (v := .ref (t + 2)) hx (hd 15) fl_5_18 ht rfl (by decide) rfl ?_
        have h3 := hL.1 _ _ _ ht 1 2 9 0 rfl
        refine r_iconst (pc' := 32) (v := 1) hx (hd 16) (by decide) rfl ?_
        refine r_aload_n (pc' := 33) hx (hd 17) rfl 0 rfl rfl ?_
        refine r_get (pc' := 36) (v := .int (mI M t 9)) hx (hd 18) fl_5_63 ht rfl (by decide) rfl ?_
        refine r_callVU (pc' := 39) (As := [.int 1, .int (mI M t 9)]) (rest := []) hx (hd 19) md_X9_mark mi_X9_mark ms_X9_mark ml_5_66 (cX9_mark (xl x) w hL (t + 2) h3 1 (mI M t 9) M) h3 rfl (by decide) ⟨Nat.le_of_ble_eq_true rfl, Nat.le_of_ble_eq_true rfl⟩ rfl rfl (Nat.le_of_ble_eq_true rfl) rfl (fun M4 => ?_)
        refine r_aload_n (pc' := 40) hx (hd 20) rfl 0 rfl rfl ?_
        refine r_callVI (pc' := 43) (As := []) (rest := []) hx (hd 21) md_X5_advance mi_X5_advance ms_X5_advance ml_5_46 (cX5_advance (xl x) w hL t ht M4) ht rfl (by decide) ⟨Nat.le_of_ble_eq_true rfl, Nat.le_of_ble_eq_true rfl⟩ rfl rfl (Nat.le_of_ble_eq_true rfl) (fun r6 => .int r6 :: []) (fun _ => rfl) rfl (fun r6 M5 => ?_)
        refine r_gd (fun h7 => ?_)
        exact r_zret hx (hd 22) h7 rfl rfl hz
      · skip
        refine r_sub [] rfl ?_
        exact hj2
abbrev yX5_readPlain : MethodName := ({ cls := "CribbageRoom$Reader", name := "readPlain", desc := "(I)Z" } : Jvm.MethodName)
def tbX5_readPlain : List (Nat × Instr × Nat) := [(0, .iconst 0, 1), (1, .istore_n 2, 1), (2, .iconst 0, 1), (3, .istore_n 3, 1), (4, .iload_n 3, 1), (5, .sipush 400, 3), (8, .if_icmp .ge 28, 3), (11, .aload_n 0, 1), (12, .bipush 28, 2), (14, .invokevirtual 74, 3), (17, .ifCond .eq 19, 3), (20, .iload_n 2, 1), (21, .ifCond .ne 7, 3), (24, .iconst 1, 1), (25, .goto 4, 3), (28, .iconst 0, 1), (29, .istore_n 2, 1), (30, .iinc 3 1, 3), (33, .goto (-29), 3), (36, .aload_n 0, 1), (37, .bipush 40, 2), (39, .invokevirtual 97, 3), (42, .ifCond .eq 44, 3), (45, .iload_n 1, 1), (46, .bipush 8, 2), (48, .if_icmp .ge 33, 3), (51, .aload_n 0, 1), (52, .invokevirtual 46, 3), (55, .ifCond .eq 26, 3), (58, .aload_n 0, 1), (59, .iload_n 1, 1), (60, .iconst 1, 1), (61, .iadd, 1), (62, .invokevirtual 80, 3), (65, .ifCond .eq 16, 3), (68, .aload_n 0, 1), (69, .bipush 41, 2), (71, .invokevirtual 53, 3), (74, .ifCond .eq 7, 3), (77, .iconst 1, 1), (78, .goto 4, 3), (81, .iconst 0, 1), (82, .istore_n 3, 1), (83, .goto 93, 3), (86, .aload_n 0, 1), (87, .iload_n 1, 1), (88, .invokevirtual 70, 3), (91, .istore_n 3, 1), (92, .aload_n 0, 1), (93, .bipush 60, 2), (95, .invokevirtual 97, 3), (98, .ifCond .eq 8, 3), (101, .bipush 7, 2), (103, .goto 19, 3), (106, .aload_n 0, 1), (107, .bipush 62, 2), (109, .invokevirtual 97, 3), (112, .ifCond .eq 8, 3), (115, .bipush 8, 2), (117, .goto 5, 3), (120, .bipush 9, 2), (122, .istore 4, 2), (124, .iload_n 3, 1), (125, .ifCond .eq 38, 3), (128, .iload 4, 2), (130, .bipush 9, 2), (132, .if_icmp .ne 12, 3), (135, .aload_n 0, 1), (136, .bipush 61, 2), (138, .invokevirtual 97, 3), (141, .ifCond .eq 22, 3), (144, .aload_n 0, 1), (145, .invokevirtual 46, 3), (148, .ifCond .eq 15, 3), (151, .aload_n 0, 1), (152, .iload_n 1, 1), (153, .invokevirtual 70, 3), (156, .ifCond .eq 7, 3), (159, .iconst 1, 1), (160, .goto 4, 3), (163, .iconst 0, 1), (164, .istore_n 3, 1), (165, .aload_n 0, 1), (166, .getfield 18, 3), (169, .iload 4, 2), (171, .iconst 0, 1), (172, .invokevirtual 86, 3), (175, .pop, 1), (176, .iload_n 2, 1), (177, .ifCond .eq 14, 3), (180, .aload_n 0, 1), (181, .getfield 18, 3), (184, .bipush 10, 2), (186, .iconst 0, 1), (187, .invokevirtual 86, 3), (190, .pop, 1), (191, .iload_n 3, 1), (192, .ireturn, 1)]
theorem dX5_readPlain : ∀ q ∈ tbX5_readPlain, decode prog_7_method_8_code q.1 = .ok q.2 := by decide +kernel
set_option maxRecDepth 20000 in
theorem cX5_readPlain (l : Launch) (w : WX) (hL : Lay w) (t : Nat) (ht : Wat w t 5 0) (p1 : Int32) (rT : Nat → Int32 → Mem → Option (Int32 × Mem)) (frT loT : Nat) (hT : ∀ (t : Nat) (_ : Wat w t 5 0) (p1 : Int32) (M : Mem), Ct l w ({ cls := "CribbageRoom$Reader", name := "readTest", desc := "(I)Z" } : Jvm.MethodName) prog_7_method_6_code 5 (Option.some FieldType.boolean) frT loT evIM emM [.ref t, .int p1] M (rT t p1 M)) (M : Mem) : Ct l w yX5_readPlain prog_7_method_8_code 5 (Option.some FieldType.boolean) (frT + 111) (loT + 2754) evIM emM [.ref t, .int p1] M (FX5_readPlain t p1 rT M) := by
  refine ct_of (by decide) (Nat.le_of_ble_eq_true rfl) (fun x hl hx hb hz => ?_)
  subst hl
  have hd : ∀ i, DAt (xc x).code (tbX5_readPlain[i]?) := fun i => by rw [hb]; exact dat_of dX5_readPlain i
  show C x w (Qn x w evIM emM) 5 0 [(0, .ref t), (1, .int p1)] [] M (FX5_readPlain t p1 rT M)
  unfold FX5_readPlain
  refine r_iconst (pc' := 1) (v := 0) hx (hd 0) (by decide) rfl ?_
  refine r_istore_n (pc' := 2) (L' := [(2, .int 0), (0, .ref t), (1, .int p1)]) hx (hd 1) rfl (by decide) rfl rfl ?_
  refine r_iconst (pc' := 3) (v := 0) hx (hd 2) (by decide) rfl ?_
  refine r_istore_n (pc' := 4) (L' := [(3, .int 0), (2, .int 0), (0, .ref t), (1, .int p1)]) hx (hd 3) rfl (by decide) rfl rfl ?_
  refine r_sub [2, 3, 1, 0] rfl ?_
  refine r_wl3 (fun v1 v2 M3 => [(0, .ref t), (1, .int p1), (2, .int v1), (3, .int v2)]) (fun v1 v2 M3 => []) (fun v1 v2 M3 => M3) (fun v1 v2 M3 rec4 ih5 => ?_) fuel 0 0 M
  refine r_iload_n (pc' := 5) hx (hd 4) rfl 3 rfl rfl ?_
  refine r_sipush (pc' := 8) (v := 400) hx (hd 5) (by decide) rfl ?_
  refine r_jn1 36 (fun M6 => [(0, .ref t), (1, .int p1), (2, .int v1)]) (fun M6 => []) (fun M6 => M6) (fun M6 => ?_) (fun j7 hj8 => ?_)
  · skip
    refine r_aload_n (pc' := 37) hx (hd 19) rfl 0 rfl rfl ?_
    refine r_bipush (pc' := 39) (v := 40) hx (hd 20) (by decide) rfl ?_
    refine r_callV (pc' := 42) (As := [.int 40]) (rest := []) hx (hd 21) md_X5_isSign mi_X5_isSign ms_X5_isSign ml_5_97 (cX5_isSign (xl x) w hL t ht 40 M6) ht rfl (by decide) ⟨by omega, by omega⟩ rfl rfl (Nat.le_of_ble_eq_true rfl) (fun r9 => .int r9 :: []) (fun _ => M6) (fun _ => ⟨rfl, rfl⟩) rfl (fun r9 _ => ?_)
    refine r_jn2 176 (fun v10 M11 => [(0, .ref t), (2, .int v1), (3, .int v10)]) (fun v10 M11 => []) (fun v10 M11 => M11) (fun v10 M11 => ?_) (fun j12 hj13 => ?_)
    · skip
      refine r_iload_n (pc' := 177) hx (hd 88) rfl 1 rfl rfl ?_
      refine r_jn1 191 (fun M14 => [(3, .int v10)]) (fun M14 => []) (fun M14 => M14) (fun M14 => ?_) (fun j15 hj16 => ?_)
      · skip
        refine r_iload_n (pc' := 192) hx (hd 96) rfl 0 rfl rfl ?_
        refine r_gd (fun h17 => ?_)
        exact r_zret hx (hd 97) h17 rfl rfl hz
      refine r_if_eq (tgt := 191) (pc' := 180) hx (hd 89) (by decide) (fun _ => ?_) rfl (fun _ => ?_)
      · skip
        refine r_sub [2] rfl ?_
        exact hj16 M11
      · skip
        refine r_aload_n (pc' := 181) hx (hd 90) rfl 0 rfl rfl ?_
        refine r_get (pc' := 184) (v := .ref (t + 2)) hx (hd 91) fl_5_18 ht rfl (by decide) rfl ?_
        have h18 := hL.1 _ _ _ ht 1 2 9 0 rfl
        refine r_bipush (pc' := 186) (v := 10) hx (hd 92) (by decide) rfl ?_
        refine r_iconst (pc' := 187) (v := 0) hx (hd 93) (by decide) rfl ?_
        refine r_callVI (pc' := 190) (As := [.int 10, .int 0]) (rest := []) hx (hd 94) md_X9_put mi_X9_put ms_X9_put ml_5_86 (cX9_put (xl x) w hL (t + 2) h18 10 0 M11) h18 rfl (by decide) ⟨by omega, by omega⟩ rfl rfl (Nat.le_of_ble_eq_true rfl) (fun r20 => .int r20 :: []) (fun _ => rfl) rfl (fun r20 M19 => ?_)
        refine r_pop (pc' := 191) hx (hd 95) rfl rfl ?_
        refine r_sub [2] rfl ?_
        exact hj16 M19
    refine r_if_eq (tgt := 86) (pc' := 45) hx (hd 22) (by decide) (fun _ => ?_) rfl (fun _ => ?_)
    · skip
      refine r_aload_n (pc' := 87) hx (hd 44) rfl 0 rfl rfl ?_
      refine r_iload_n (pc' := 88) hx (hd 45) rfl 1 rfl rfl ?_
      refine r_callVI (pc' := 91) (As := [.int p1]) (rest := []) hx (hd 46) md_X5_readSum mi_X5_readSum ms_X5_readSum ml_5_70 (cX5_readSumR (xl x) w hL t ht p1 M6) ht rfl (by decide) ⟨by omega, by omega⟩ rfl rfl (Nat.le_of_ble_eq_true rfl) (fun r22 => .int r22 :: []) (fun _ => rfl) rfl (fun r22 M21 => ?_)
      refine r_istore_n (pc' := 92) (L' := [(3, .int r22), (0, .ref t), (1, .int p1), (2, .int v1)]) hx (hd 47) rfl (by decide) rfl rfl ?_
      refine r_aload_n (pc' := 93) hx (hd 48) rfl 1 rfl rfl ?_
      refine r_bipush (pc' := 95) (v := 60) hx (hd 49) (by decide) rfl ?_
      refine r_callV (pc' := 98) (As := [.int 60]) (rest := []) hx (hd 50) md_X5_isSign mi_X5_isSign ms_X5_isSign ml_5_97 (cX5_isSign (xl x) w hL t ht 60 M21) ht rfl (by decide) ⟨by omega, by omega⟩ rfl rfl (Nat.le_of_ble_eq_true rfl) (fun r23 => .int r23 :: []) (fun _ => M21) (fun _ => ⟨rfl, rfl⟩) rfl (fun r23 _ => ?_)
      refine r_jn1 122 (fun v24 => [(0, .ref t), (1, .int p1), (2, .int v1), (3, .int r22)]) (fun v24 => [.int v24]) (fun v24 => M21) (fun v24 => ?_) (fun j25 hj26 => ?_)
      · skip
        refine r_istore (pc' := 124) (L' := [(4, .int v24), (0, .ref t), (1, .int p1), (2, .int v1), (3, .int r22)]) hx (hd 61) (by decide) rfl rfl ?_
        refine r_iload_n (pc' := 125) hx (hd 62) rfl 4 rfl rfl ?_
        refine r_jn2 164 (fun v27 M28 => [(0, .ref t), (2, .int v1), (4, .int v24)]) (fun v27 M28 => [.int v27]) (fun v27 M28 => M28) (fun v27 M28 => ?_) (fun j29 hj30 => ?_)
        · skip
          refine r_istore_n (pc' := 165) (L' := [(3, .int v27), (0, .ref t), (2, .int v1), (4, .int v24)]) hx (hd 81) rfl (by decide) rfl rfl ?_
          refine r_aload_n (pc' := 166) hx (hd 82) rfl 1 rfl rfl ?_
          refine r_get (pc' := 169) (v := .ref (t + 2)) hx (hd 83) fl_5_18 ht rfl (by decide) rfl ?_
          have h31 := hL.1 _ _ _ ht 1 2 9 0 rfl
          refine r_iload (pc' := 171) hx (hd 84) 3 rfl rfl ?_
          refine r_iconst (pc' := 172) (v := 0) hx (hd 85) (by decide) rfl ?_
          refine r_callVI (pc' := 175) (As := [.int v24, .int 0]) (rest := []) hx (hd 86) md_X9_put mi_X9_put ms_X9_put ml_5_86 (cX9_put (xl x) w hL (t + 2) h31 v24 0 M28) h31 rfl (by decide) ⟨by omega, by omega⟩ rfl rfl (Nat.le_of_ble_eq_true rfl) (fun r33 => .int r33 :: []) (fun _ => rfl) rfl (fun r33 M32 => ?_)
          refine r_pop (pc' := 176) hx (hd 87) rfl rfl ?_
          refine r_sub [1, 2, 0] rfl ?_
          exact hj13 v27 M32
        refine r_jn1 163 (fun M34 => [(0, .ref t), (2, .int v1), (4, .int v24)]) (fun M34 => []) (fun M34 => M34) (fun M34 => ?_) (fun j35 hj36 => ?_)
        · skip
          refine r_iconst (pc' := 164) (v := 0) hx (hd 80) (by decide) rfl ?_
          exact hj30 0 M34
        refine r_if_eq (tgt := 163) (pc' := 128) hx (hd 63) (by decide) (fun _ => ?_) rfl (fun _ => ?_)
        · skip
          refine r_sub [1, 3, 0] rfl ?_
          exact hj36 M21
        · skip
          refine r_iload (pc' := 130) hx (hd 64) 0 rfl rfl ?_
          refine r_bipush (pc' := 132) (v := 9) hx (hd 65) (by decide) rfl ?_
          refine r_jn0 144 ([(0, .ref t), (1, .int p1), (2, .int v1), (4, .int v24)]) ([]) (M21) (?_) (fun j37 hj38 => ?_)
          · skip
            refine r_aload_n (pc' := 145) hx (hd 71) rfl 0 rfl rfl ?_
            refine r_callVI (pc' := 148) (As := []) (rest := []) hx (hd 72) md_X5_advance mi_X5_advance ms_X5_advance ml_5_46 (cX5_advance (xl x) w hL t ht M21) ht rfl (by decide) ⟨by omega, by omega⟩ rfl rfl (Nat.le_of_ble_eq_true rfl) (fun r40 => .int r40 :: []) (fun _ => rfl) rfl (fun r40 M39 => ?_)
            refine r_if_eq (tgt := 163) (pc' := 151) hx (hd 73) (by decide) (fun _ => ?_) rfl (fun _ => ?_)
            · skip
              refine r_sub [0, 2, 3] rfl ?_
              exact hj36 M39
            · skip
              refine r_aload_n (pc' := 152) hx (hd 74) rfl 0 rfl rfl ?_
              refine r_iload_n (pc' := 153) hx (hd 75) rfl 1 rfl rfl ?_
              refine r_callVI (pc' := 156) (As := [.int p1]) (rest := []) hx (hd 76) md_X5_readSum mi_X5_readSum ms_X5_readSum ml_5_70 (cX5_readSumR (xl x) w hL t ht p1 M39) ht rfl (by decide) ⟨by omega, by omega⟩ rfl rfl (Nat.le_of_ble_eq_true rfl) (fun r42 => .int r42 :: []) (fun _ => rfl) rfl (fun r42 M41 => ?_)
              refine r_if_eq (tgt := 163) (pc' := 159) hx (hd 77) (by decide) (fun _ => ?_) rfl (fun _ => ?_)
              · skip
                refine r_sub [0, 2, 3] rfl ?_
                exact hj36 M41
              · skip
                refine r_iconst (pc' := 160) (v := 1) hx (hd 78) (by decide) rfl ?_
                refine r_goto (tgt := 164) hx (hd 79) (by decide) ?_
                refine r_sub [0, 2, 3] rfl ?_
                exact hj30 1 M41
          refine r_icmp_ne (tgt := 144) (pc' := 135) hx (hd 66) (by decide) (fun _ => ?_) rfl (fun _ => ?_)
          · skip
            refine r_sub [1, 2, 3, 0] rfl ?_
            exact hj38
          · skip
            refine r_aload_n (pc' := 136) hx (hd 67) rfl 1 rfl rfl ?_
            refine r_bipush (pc' := 138) (v := 61) hx (hd 68) (by decide) rfl ?_
            refine r_callV (pc' := 141) (As := [.int 61]) (rest := []) hx (hd 69) md_X5_isSign mi_X5_isSign ms_X5_isSign ml_5_97 (cX5_isSign (xl x) w hL t ht 61 M21) ht rfl (by decide) ⟨by omega, by omega⟩ rfl rfl (Nat.le_of_ble_eq_true rfl) (fun r43 => .int r43 :: []) (fun _ => M21) (fun _ => ⟨rfl, rfl⟩) rfl (fun r43 _ => ?_)
            refine r_if_eq (tgt := 163) (pc' := 144) hx (hd 70) (by decide) (fun _ => ?_) rfl (fun _ => ?_)
            · skip
              refine r_sub [1, 3, 0] rfl ?_
              exact hj36 M21
            · skip
              refine r_sub [1, 2, 3, 0] rfl ?_
              exact hj38
      refine r_if_eq (tgt := 106) (pc' := 101) hx (hd 51) (by decide) (fun _ => ?_) rfl (fun _ => ?_)
      · skip
        refine r_aload_n (pc' := 107) hx (hd 54) rfl 1 rfl rfl ?_
        refine r_bipush (pc' := 109) (v := 62) hx (hd 55) (by decide) rfl ?_
        refine r_callV (pc' := 112) (As := [.int 62]) (rest := []) hx (hd 56) md_X5_isSign mi_X5_isSign ms_X5_isSign ml_5_97 (cX5_isSign (xl x) w hL t ht 62 M21) ht rfl (by decide) ⟨by omega, by omega⟩ rfl rfl (Nat.le_of_ble_eq_true rfl) (fun r44 => .int r44 :: []) (fun _ => M21) (fun _ => ⟨rfl, rfl⟩) rfl (fun r44 _ => ?_)
        refine r_if_eq (tgt := 120) (pc' := 115) hx (hd 57) (by decide) (fun _ => ?_) rfl (fun _ => ?_)
        · skip
          refine r_bipush (pc' := 122) (v := 9) hx (hd 60) (by decide) rfl ?_
          refine r_sub [1, 2, 3, 0] rfl ?_
          exact hj26 9
        · skip
          refine r_bipush (pc' := 117) (v := 8) hx (hd 58) (by decide) rfl ?_
          refine r_goto (tgt := 122) hx (hd 59) (by decide) ?_
          refine r_sub [1, 2, 3, 0] rfl ?_
          exact hj26 8
      · skip
        refine r_bipush (pc' := 103) (v := 7) hx (hd 52) (by decide) rfl ?_
        refine r_goto (tgt := 122) hx (hd 53) (by decide) ?_
        refine r_sub [1, 2, 3, 0] rfl ?_
        exact hj26 7
    · skip
      refine r_iload_n (pc' := 46) hx (hd 23) rfl 1 rfl rfl ?_
      refine r_bipush (pc' := 48) (v := 8) hx (hd 24) (by decide) rfl ?_
      refine r_jn2 82 (fun v45 M46 => [(0, .ref t), (2, .int v1)]) (fun v45 M46 => [.int v45]) (fun v45 M46 => M46) (fun v45 M46 => ?_) (fun j47 hj48 => ?_)
      · skip
        refine r_istore_n (pc' := 83) (L' := [(3, .int v45), (0, .ref t), (2, .int v1)]) hx (hd 42) rfl (by decide) rfl rfl ?_
        refine r_goto (tgt := 176) hx (hd 43) (by decide) ?_
        refine r_sub [1, 2, 0] rfl ?_
        exact hj13 v45 M46
      refine r_jn1 81 (fun M49 => [(0, .ref t), (2, .int v1)]) (fun M49 => []) (fun M49 => M49) (fun M49 => ?_) (fun j50 hj51 => ?_)
      · skip
        refine r_iconst (pc' := 82) (v := 0) hx (hd 41) (by decide) rfl ?_
        exact hj48 0 M49
      refine r_icmp_ge (tgt := 81) (pc' := 51) hx (hd 25) (by decide) (fun _ => ?_) rfl (fun _ => ?_)
      · skip
        refine r_sub [0, 2] rfl ?_
        exact hj51 M6
      · skip
        refine r_aload_n (pc' := 52) hx (hd 26) rfl 0 rfl rfl ?_
        refine r_callVI (pc' := 55) (As := []) (rest := []) hx (hd 27) md_X5_advance mi_X5_advance ms_X5_advance ml_5_46 (cX5_advance (xl x) w hL t ht M6) ht rfl (by decide) ⟨by omega, by omega⟩ rfl rfl (Nat.le_of_ble_eq_true rfl) (fun r53 => .int r53 :: []) (fun _ => rfl) rfl (fun r53 M52 => ?_)
        refine r_if_eq (tgt := 81) (pc' := 58) hx (hd 28) (by decide) (fun _ => ?_) rfl (fun _ => ?_)
        · skip
          refine r_sub [0, 2] rfl ?_
          exact hj51 M52
        · skip
          refine r_aload_n (pc' := 59) hx (hd 29) rfl 0 rfl rfl ?_
          refine r_iload_n (pc' := 60) hx (hd 30) rfl 1 rfl rfl ?_
          refine r_iconst (pc' := 61) (v := 1) hx (hd 31) (by decide) rfl ?_
          refine r_iadd (pc' := 62) hx (hd 32) rfl ?_
          refine r_callVI (pc' := 65) (As := [.int (p1 + 1)]) (rest := []) hx (hd 33) md_X5_readTest mi_X5_readTest ms_X5_readTest ml_5_80 (hT t ht (p1 + 1) M52) ht rfl (by decide) ⟨by omega, by omega⟩ rfl rfl (Nat.le_of_ble_eq_true rfl) (fun r55 => .int r55 :: []) (fun _ => rfl) rfl (fun r55 M54 => ?_)
          refine r_if_eq (tgt := 81) (pc' := 68) hx (hd 34) (by decide) (fun _ => ?_) rfl (fun _ => ?_)
          · skip
            refine r_sub [0, 2] rfl ?_
            exact hj51 M54
          · skip
            refine r_aload_n (pc' := 69) hx (hd 35) rfl 0 rfl rfl ?_
            refine r_bipush (pc' := 71) (v := 41) hx (hd 36) (by decide) rfl ?_
            refine r_callVI (pc' := 74) (As := [.int 41]) (rest := []) hx (hd 37) md_X5_skipSign mi_X5_skipSign ms_X5_skipSign ml_5_53 (cX5_skipSign (xl x) w hL t ht 41 M54) ht rfl (by decide) ⟨by omega, by omega⟩ rfl rfl (Nat.le_of_ble_eq_true rfl) (fun r57 => .int r57 :: []) (fun _ => rfl) rfl (fun r57 M56 => ?_)
            refine r_if_eq (tgt := 81) (pc' := 77) hx (hd 38) (by decide) (fun _ => ?_) rfl (fun _ => ?_)
            · skip
              refine r_sub [0, 2] rfl ?_
              exact hj51 M56
            · skip
              refine r_iconst (pc' := 78) (v := 1) hx (hd 39) (by decide) rfl ?_
              refine r_goto (tgt := 82) hx (hd 40) (by decide) ?_
              refine r_sub [0, 2] rfl ?_
              exact hj48 1 M56
  refine r_icmp_ge (tgt := 36) (pc' := 11) hx (hd 6) (by decide) (fun _ => ?_) rfl (fun _ => ?_)
  · skip
    refine r_sub [0, 1, 2] rfl ?_
    exact hj8 M3
  · skip
    refine r_aload_n (pc' := 12) hx (hd 7) rfl 0 rfl rfl ?_
    refine r_bipush (pc' := 14) (v := 28) hx (hd 8) (by decide) rfl ?_
    refine r_callVI (pc' := 17) (As := [.int 28]) (rest := []) hx (hd 9) md_X5_skipWord mi_X5_skipWord ms_X5_skipWord ml_5_74 (cX5_skipWord (xl x) w hL t ht 28 M3) ht rfl (by decide) ⟨by omega, by omega⟩ rfl rfl (Nat.le_of_ble_eq_true rfl) (fun r59 => .int r59 :: []) (fun _ => rfl) rfl (fun r59 M58 => ?_)
    refine r_if_eq (tgt := 36) (pc' := 20) hx (hd 10) (by decide) (fun _ => ?_) rfl (fun _ => ?_)
    · skip
      refine r_sub [0, 1, 2] rfl ?_
      exact hj8 M58
    · skip
      refine r_iload_n (pc' := 21) hx (hd 11) rfl 2 rfl rfl ?_
      refine r_jn1 29 (fun v60 => [(0, .ref t), (1, .int p1), (3, .int v2)]) (fun v60 => [.int v60]) (fun v60 => M58) (fun v60 => ?_) (fun j61 hj62 => ?_)
      · skip
        refine r_istore_n (pc' := 30) (L' := [(2, .int v60), (0, .ref t), (1, .int p1), (3, .int v2)]) hx (hd 16) rfl (by decide) rfl rfl ?_
        refine r_iinc (pc' := 33) (v := 1) hx (hd 17) 3 rfl (by decide) (by decide) (fun v63 => [(3, .int v63), (2, .int v60), (0, .ref t), (1, .int p1)]) (fun _ => rfl) rfl (fun v63 => ?_)
        refine r_goto (tgt := 4) hx (hd 18) (by decide) ?_
        refine r_sub [2, 3, 1, 0] rfl ?_
        exact ih5 v60 v63 M58
      refine r_if_ne (tgt := 28) (pc' := 24) hx (hd 12) (by decide) (fun _ => ?_) rfl (fun _ => ?_)
      · skip
        refine r_iconst (pc' := 29) (v := 0) hx (hd 15) (by decide) rfl ?_
        refine r_sub [0, 1, 3] rfl ?_
        exact hj62 0
      · skip
        refine r_iconst (pc' := 25) (v := 1) hx (hd 13) (by decide) rfl ?_
        refine r_goto (tgt := 29) hx (hd 14) (by decide) ?_
        refine r_sub [0, 1, 3] rfl ?_
        exact hj62 1
abbrev yX9_leaveToHere : MethodName := ({ cls := "CribbageRoom$Text", name := "leaveToHere", desc := "(I)V" } : Jvm.MethodName)
def tbX9_leaveToHere : List (Nat × Instr × Nat) := [(0, .iload_n 1, 1), (1, .ifCond .lt 26, 3), (4, .iload_n 1, 1), (5, .iconst 1, 1), (6, .iadd, 1), (7, .aload_n 0, 1), (8, .getfield 9, 3), (11, .arraylength, 1), (12, .if_icmp .ge 15, 3), (15, .aload_n 0, 1), (16, .getfield 9, 3), (19, .iload_n 1, 1), (20, .iconst 1, 1), (21, .iadd, 1), (22, .aload_n 0, 1), (23, .getfield 18, 3), (26, .iastore, 1), (27, .return_, 1)]
theorem dX9_leaveToHere : ∀ q ∈ tbX9_leaveToHere, decode prog_11_method_6_code q.1 = .ok q.2 := by decide +kernel
set_option maxRecDepth 20000 in
theorem cX9_leaveToHere (l : Launch) (w : WX) (hL : Lay w) (t : Nat) (ht : Wat w t 9 0) (p1 : Int32) (M : Mem) : Ct l w yX9_leaveToHere prog_11_method_6_code 2 (Option.none : Option FieldType) 0 0 evU emU [.ref t, .int p1] M (FX9_leaveToHere t p1 M) := by
  refine ct_of (by decide) (Nat.le_of_ble_eq_true rfl) (fun x hl hx hb hz => ?_)
  subst hl
  have hd : ∀ i, DAt (xc x).code (tbX9_leaveToHere[i]?) := fun i => by rw [hb]; exact dat_of dX9_leaveToHere i
  show C x w (Qn x w evU emU) 2 0 [(0, .ref t), (1, .int p1)] [] M (FX9_leaveToHere t p1 M)
  unfold FX9_leaveToHere
  refine r_iload_n (pc' := 1) hx (hd 0) rfl 1 rfl rfl ?_
  refine r_jn1 27 (fun M1 => []) (fun M1 => []) (fun M1 => M1) (fun M1 => ?_) (fun j2 hj3 => ?_)
  · skip
    exact r_vret hx (hd 17) rfl rfl hz
  refine r_if_lt (tgt := 27) (pc' := 4) hx (hd 1) (by decide) (fun _ => ?_) rfl (fun _ => ?_)
  · skip
    refine r_sub [] rfl ?_
    exact hj3 M
  · skip
    refine r_iload_n (pc' := 5) hx (hd 2) rfl 1 rfl rfl ?_
    refine r_iconst (pc' := 6) (v := 1) hx (hd 3) (by decide) rfl ?_
    refine r_iadd (pc' := 7) hx (hd 4) rfl ?_
    refine r_aload_n (pc' := 8) hx (hd 5) rfl 0 rfl rfl ?_
    refine r_get (pc' := 11) (v := .ref (t + 1)) hx (hd 6) fl_9_9 ht rfl (by decide) rfl ?_
    have h4 := hL.1 _ _ _ ht 0 1 23 0 rfl
    refine r_alenD (pc' := 12) hx (hd 7) h4 rfl ?_
    refine r_icmp_ge (tgt := 27) (pc' := 15) hx (hd 8) (by decide) (fun _ => ?_) rfl (fun _ => ?_)
    · skip
      refine r_sub [] rfl ?_
      exact hj3 M
    · skip
      refine r_aload_n (pc' := 16) hx (hd 9) rfl 0 rfl rfl ?_
      refine r_get (pc' := 19) (v := .ref (t + 1)) hx (hd 10) fl_9_9 ht rfl (by decide) rfl ?_
      have h5 := hL.1 _ _ _ ht 0 1 23 0 rfl
      refine r_iload_n (pc' := 20) hx (hd 11) rfl 1 rfl rfl ?_
      refine r_iconst (pc' := 21) (v := 1) hx (hd 12) (by decide) rfl ?_
      refine r_iadd (pc' := 22) hx (hd 13) rfl ?_
      refine r_aload_n (pc' := 23) hx (hd 14) rfl 0 rfl rfl ?_
      refine r_get (pc' := 26) (v := .int (mI M t 2)) hx (hd 15) fl_9_18 ht rfl (by decide) rfl ?_
      refine r_gd (fun h7 => ?_)
      refine r_iastD (pc' := 27) (k := ix (p1 + 1)) hx (hd 16) h5 h7 rfl rfl (fun M6 => ?_)
      refine r_sub [] rfl ?_
      exact hj3 M6
abbrev yX5_readBoth : MethodName := ({ cls := "CribbageRoom$Reader", name := "readBoth", desc := "(I)Z" } : Jvm.MethodName)
def tbX5_readBoth : List (Nat × Instr × Nat) := [(0, .aload_n 0, 1), (1, .iload_n 1, 1), (2, .invokevirtual 94, 3), (5, .istore_n 2, 1), (6, .iconst 0, 1), (7, .istore_n 3, 1), (8, .iload_n 3, 1), (9, .sipush 400, 3), (12, .if_icmp .ge 49, 3), (15, .iload_n 2, 1), (16, .ifCond .eq 45, 3), (19, .aload_n 0, 1), (20, .bipush 27, 2), (22, .invokevirtual 74, 3), (25, .ifCond .eq 36, 3), (28, .aload_n 0, 1), (29, .getfield 18, 3), (32, .bipush 11, 2), (34, .iconst 0, 1), (35, .invokevirtual 86, 3), (38, .istore 4, 2), (40, .aload_n 0, 1), (41, .iload_n 1, 1), (42, .invokevirtual 94, 3), (45, .istore_n 2, 1), (46, .aload_n 0, 1), (47, .getfield 18, 3), (50, .iload 4, 2), (52, .invokevirtual 90, 3), (55, .iinc 3 1, 3), (58, .goto (-50), 3), (61, .iload_n 2, 1), (62, .ireturn, 1)]
theorem dX5_readBoth : ∀ q ∈ tbX5_readBoth, decode prog_7_method_7_code q.1 = .ok q.2 := by decide +kernel
set_option maxRecDepth 20000 in
theorem cX5_readBoth (l : Launch) (w : WX) (hL : Lay w) (t : Nat) (ht : Wat w t 5 0) (p1 : Int32) (rT : Nat → Int32 → Mem → Option (Int32 × Mem)) (frT loT : Nat) (hT : ∀ (t : Nat) (_ : Wat w t 5 0) (p1 : Int32) (M : Mem), Ct l w ({ cls := "CribbageRoom$Reader", name := "readTest", desc := "(I)Z" } : Jvm.MethodName) prog_7_method_6_code 5 (Option.some FieldType.boolean) frT loT evIM emM [.ref t, .int p1] M (rT t p1 M)) (M : Mem) : Ct l w yX5_readBoth prog_7_method_7_code 5 (Option.some FieldType.boolean) (frT + 112) (loT + 2778) evIM emM [.ref t, .int p1] M (FX5_readBoth t p1 rT M) := by
  refine ct_of (by decide) (Nat.le_of_ble_eq_true rfl) (fun x hl hx hb hz => ?_)
  subst hl
  have hd : ∀ i, DAt (xc x).code (tbX5_readBoth[i]?) := fun i => by rw [hb]; exact dat_of dX5_readBoth i
  show C x w (Qn x w evIM emM) 5 0 [(0, .ref t), (1, .int p1)] [] M (FX5_readBoth t p1 rT M)
  unfold FX5_readBoth
  refine r_aload_n (pc' := 1) hx (hd 0) rfl 0 rfl rfl ?_
  refine r_iload_n (pc' := 2) hx (hd 1) rfl 1 rfl rfl ?_
  refine r_callVI (pc' := 5) (As := [.int p1]) (rest := []) hx (hd 2) md_X5_readPlain mi_X5_readPlain ms_X5_readPlain ml_5_94 (cX5_readPlain (xl x) w hL t ht p1 rT frT loT hT M) ht rfl (by decide) ⟨by omega, by omega⟩ rfl rfl (Nat.le_of_ble_eq_true rfl) (fun r2 => .int r2 :: []) (fun _ => rfl) rfl (fun r2 M1 => ?_)
  refine r_istore_n (pc' := 6) (L' := [(2, .int r2), (0, .ref t), (1, .int p1)]) hx (hd 3) rfl (by decide) rfl rfl ?_
  refine r_iconst (pc' := 7) (v := 0) hx (hd 4) (by decide) rfl ?_
  refine r_istore_n (pc' := 8) (L' := [(3, .int 0), (2, .int r2), (0, .ref t), (1, .int p1)]) hx (hd 5) rfl (by decide) rfl rfl ?_
  refine r_sub [2, 3, 1, 0] rfl ?_
  refine r_wl3 (fun v3 v4 M5 => [(0, .ref t), (1, .int p1), (2, .int v3), (3, .int v4)]) (fun v3 v4 M5 => []) (fun v3 v4 M5 => M5) (fun v3 v4 M5 rec6 ih7 => ?_) fuel r2 0 M1
  refine r_iload_n (pc' := 9) hx (hd 6) rfl 3 rfl rfl ?_
  refine r_sipush (pc' := 12) (v := 400) hx (hd 7) (by decide) rfl ?_
  refine r_jn1 61 (fun M8 => [(2, .int v3)]) (fun M8 => []) (fun M8 => M8) (fun M8 => ?_) (fun j9 hj10 => ?_)
  · skip
    refine r_iload_n (pc' := 62) hx (hd 31) rfl 0 rfl rfl ?_
    refine r_gd (fun h11 => ?_)
    exact r_zret hx (hd 32) h11 rfl rfl hz
  refine r_icmp_ge (tgt := 61) (pc' := 15) hx (hd 8) (by decide) (fun _ => ?_) rfl (fun _ => ?_)
  · skip
    refine r_sub [2] rfl ?_
    exact hj10 M5
  · skip
    refine r_iload_n (pc' := 16) hx (hd 9) rfl 2 rfl rfl ?_
    refine r_if_eq (tgt := 61) (pc' := 19) hx (hd 10) (by decide) (fun _ => ?_) rfl (fun _ => ?_)
    · skip
      refine r_sub [2] rfl ?_
      exact hj10 M5
    · skip
      refine r_aload_n (pc' := 20) hx (hd 11) rfl 0 rfl rfl ?_
      refine r_bipush (pc' := 22) (v := 27) hx (hd 12) (by decide) rfl ?_
      refine r_callVI (pc' := 25) (As := [.int 27]) (rest := []) hx (hd 13) md_X5_skipWord mi_X5_skipWord ms_X5_skipWord ml_5_74 (cX5_skipWord (xl x) w hL t ht 27 M5) ht rfl (by decide) ⟨by omega, by omega⟩ rfl rfl (Nat.le_of_ble_eq_true rfl) (fun r13 => .int r13 :: []) (fun _ => rfl) rfl (fun r13 M12 => ?_)
      refine r_if_eq (tgt := 61) (pc' := 28) hx (hd 14) (by decide) (fun _ => ?_) rfl (fun _ => ?_)
      · skip
        refine r_sub [2] rfl ?_
        exact hj10 M12
      · skip
        refine r_aload_n (pc' := 29) hx (hd 15) rfl 0 rfl rfl ?_
        refine r_get (pc' := 32) (v := .ref (t + 2)) hx (hd 16) fl_5_18 ht rfl (by decide) rfl ?_
        have h14 := hL.1 _ _ _ ht 1 2 9 0 rfl
        refine r_bipush (pc' := 34) (v := 11) hx (hd 17) (by decide) rfl ?_
        refine r_iconst (pc' := 35) (v := 0) hx (hd 18) (by decide) rfl ?_
        refine r_callVI (pc' := 38) (As := [.int 11, .int 0]) (rest := []) hx (hd 19) md_X9_put mi_X9_put ms_X9_put ml_5_86 (cX9_put (xl x) w hL (t + 2) h14 11 0 M12) h14 rfl (by decide) ⟨by omega, by omega⟩ rfl rfl (Nat.le_of_ble_eq_true rfl) (fun r16 => .int r16 :: []) (fun _ => rfl) rfl (fun r16 M15 => ?_)
        refine r_istore (pc' := 40) (L' := [(4, .int r16), (0, .ref t), (1, .int p1), (2, .int v3), (3, .int v4)]) hx (hd 20) (by decide) rfl rfl ?_
        refine r_aload_n (pc' := 41) hx (hd 21) rfl 1 rfl rfl ?_
        refine r_iload_n (pc' := 42) hx (hd 22) rfl 2 rfl rfl ?_
        refine r_callVI (pc' := 45) (As := [.int p1]) (rest := []) hx (hd 23) md_X5_readPlain mi_X5_readPlain ms_X5_readPlain ml_5_94 (cX5_readPlain (xl x) w hL t ht p1 rT frT loT hT M15) ht rfl (by decide) ⟨by omega, by omega⟩ rfl rfl (Nat.le_of_ble_eq_true rfl) (fun r18 => .int r18 :: []) (fun _ => rfl) rfl (fun r18 M17 => ?_)
        refine r_istore_n (pc' := 46) (L' := [(2, .int r18), (4, .int r16), (0, .ref t), (1, .int p1), (3, .int v4)]) hx (hd 24) rfl (by decide) rfl rfl ?_
        refine r_aload_n (pc' := 47) hx (hd 25) rfl 2 rfl rfl ?_
        refine r_get (pc' := 50) (v := .ref (t + 2)) hx (hd 26) fl_5_18 ht rfl (by decide) rfl ?_
        have h19 := hL.1 _ _ _ ht 1 2 9 0 rfl
        refine r_iload (pc' := 52) hx (hd 27) 1 rfl rfl ?_
        refine r_callVU (pc' := 55) (As := [.int r16]) (rest := []) hx (hd 28) md_X9_leaveToHere mi_X9_leaveToHere ms_X9_leaveToHere ml_5_90 (cX9_leaveToHere (xl x) w hL (t + 2) h19 r16 M17) h19 rfl (by decide) ⟨by omega, by omega⟩ rfl rfl (Nat.le_of_ble_eq_true rfl) rfl (fun M20 => ?_)
        refine r_iinc (pc' := 58) (v := 1) hx (hd 29) 4 rfl (by decide) (by decide) (fun v21 => [(3, .int v21), (2, .int r18), (4, .int r16), (0, .ref t), (1, .int p1)]) (fun _ => rfl) rfl (fun v21 => ?_)
        refine r_goto (tgt := 8) hx (hd 30) (by decide) ?_
        refine r_sub [3, 4, 1, 0] rfl ?_
        exact ih7 r18 v21 M20
abbrev yX5_readTest : MethodName := ({ cls := "CribbageRoom$Reader", name := "readTest", desc := "(I)Z" } : Jvm.MethodName)
def tbX5_readTest : List (Nat × Instr × Nat) := [(0, .aload_n 0, 1), (1, .iload_n 1, 1), (2, .invokevirtual 83, 3), (5, .istore_n 2, 1), (6, .iconst 0, 1), (7, .istore_n 3, 1), (8, .iload_n 3, 1), (9, .sipush 400, 3), (12, .if_icmp .ge 49, 3), (15, .iload_n 2, 1), (16, .ifCond .eq 45, 3), (19, .aload_n 0, 1), (20, .bipush 26, 2), (22, .invokevirtual 74, 3), (25, .ifCond .eq 36, 3), (28, .aload_n 0, 1), (29, .getfield 18, 3), (32, .bipush 12, 2), (34, .iconst 0, 1), (35, .invokevirtual 86, 3), (38, .istore 4, 2), (40, .aload_n 0, 1), (41, .iload_n 1, 1), (42, .invokevirtual 83, 3), (45, .istore_n 2, 1), (46, .aload_n 0, 1), (47, .getfield 18, 3), (50, .iload 4, 2), (52, .invokevirtual 90, 3), (55, .iinc 3 1, 3), (58, .goto (-50), 3), (61, .iload_n 2, 1), (62, .ireturn, 1)]
theorem dX5_readTest : ∀ q ∈ tbX5_readTest, decode prog_7_method_6_code q.1 = .ok q.2 := by decide +kernel
set_option maxRecDepth 20000 in
theorem cX5_readTest (l : Launch) (w : WX) (hL : Lay w) (t : Nat) (ht : Wat w t 5 0) (p1 : Int32) (rT : Nat → Int32 → Mem → Option (Int32 × Mem)) (frT loT : Nat) (hT : ∀ (t : Nat) (_ : Wat w t 5 0) (p1 : Int32) (M : Mem), Ct l w ({ cls := "CribbageRoom$Reader", name := "readTest", desc := "(I)Z" } : Jvm.MethodName) prog_7_method_6_code 5 (Option.some FieldType.boolean) frT loT evIM emM [.ref t, .int p1] M (rT t p1 M)) (M : Mem) : Ct l w yX5_readTest prog_7_method_6_code 5 (Option.some FieldType.boolean) (frT + 113) (loT + 2802) evIM emM [.ref t, .int p1] M (FX5_readTest t p1 rT M) := by
  refine ct_of (by decide) (Nat.le_of_ble_eq_true rfl) (fun x hl hx hb hz => ?_)
  subst hl
  have hd : ∀ i, DAt (xc x).code (tbX5_readTest[i]?) := fun i => by rw [hb]; exact dat_of dX5_readTest i
  show C x w (Qn x w evIM emM) 5 0 [(0, .ref t), (1, .int p1)] [] M (FX5_readTest t p1 rT M)
  unfold FX5_readTest
  refine r_aload_n (pc' := 1) hx (hd 0) rfl 0 rfl rfl ?_
  refine r_iload_n (pc' := 2) hx (hd 1) rfl 1 rfl rfl ?_
  refine r_callVI (pc' := 5) (As := [.int p1]) (rest := []) hx (hd 2) md_X5_readBoth mi_X5_readBoth ms_X5_readBoth ml_5_83 (cX5_readBoth (xl x) w hL t ht p1 rT frT loT hT M) ht rfl (by decide) ⟨by omega, by omega⟩ rfl rfl (Nat.le_of_ble_eq_true rfl) (fun r2 => .int r2 :: []) (fun _ => rfl) rfl (fun r2 M1 => ?_)
  refine r_istore_n (pc' := 6) (L' := [(2, .int r2), (0, .ref t), (1, .int p1)]) hx (hd 3) rfl (by decide) rfl rfl ?_
  refine r_iconst (pc' := 7) (v := 0) hx (hd 4) (by decide) rfl ?_
  refine r_istore_n (pc' := 8) (L' := [(3, .int 0), (2, .int r2), (0, .ref t), (1, .int p1)]) hx (hd 5) rfl (by decide) rfl rfl ?_
  refine r_sub [2, 3, 1, 0] rfl ?_
  refine r_wl3 (fun v3 v4 M5 => [(0, .ref t), (1, .int p1), (2, .int v3), (3, .int v4)]) (fun v3 v4 M5 => []) (fun v3 v4 M5 => M5) (fun v3 v4 M5 rec6 ih7 => ?_) fuel r2 0 M1
  refine r_iload_n (pc' := 9) hx (hd 6) rfl 3 rfl rfl ?_
  refine r_sipush (pc' := 12) (v := 400) hx (hd 7) (by decide) rfl ?_
  refine r_jn1 61 (fun M8 => [(2, .int v3)]) (fun M8 => []) (fun M8 => M8) (fun M8 => ?_) (fun j9 hj10 => ?_)
  · skip
    refine r_iload_n (pc' := 62) hx (hd 31) rfl 0 rfl rfl ?_
    refine r_gd (fun h11 => ?_)
    exact r_zret hx (hd 32) h11 rfl rfl hz
  refine r_icmp_ge (tgt := 61) (pc' := 15) hx (hd 8) (by decide) (fun _ => ?_) rfl (fun _ => ?_)
  · skip
    refine r_sub [2] rfl ?_
    exact hj10 M5
  · skip
    refine r_iload_n (pc' := 16) hx (hd 9) rfl 2 rfl rfl ?_
    refine r_if_eq (tgt := 61) (pc' := 19) hx (hd 10) (by decide) (fun _ => ?_) rfl (fun _ => ?_)
    · skip
      refine r_sub [2] rfl ?_
      exact hj10 M5
    · skip
      refine r_aload_n (pc' := 20) hx (hd 11) rfl 0 rfl rfl ?_
      refine r_bipush (pc' := 22) (v := 26) hx (hd 12) (by decide) rfl ?_
      refine r_callVI (pc' := 25) (As := [.int 26]) (rest := []) hx (hd 13) md_X5_skipWord mi_X5_skipWord ms_X5_skipWord ml_5_74 (cX5_skipWord (xl x) w hL t ht 26 M5) ht rfl (by decide) ⟨by omega, by omega⟩ rfl rfl (Nat.le_of_ble_eq_true rfl) (fun r13 => .int r13 :: []) (fun _ => rfl) rfl (fun r13 M12 => ?_)
      refine r_if_eq (tgt := 61) (pc' := 28) hx (hd 14) (by decide) (fun _ => ?_) rfl (fun _ => ?_)
      · skip
        refine r_sub [2] rfl ?_
        exact hj10 M12
      · skip
        refine r_aload_n (pc' := 29) hx (hd 15) rfl 0 rfl rfl ?_
        refine r_get (pc' := 32) (v := .ref (t + 2)) hx (hd 16) fl_5_18 ht rfl (by decide) rfl ?_
        have h14 := hL.1 _ _ _ ht 1 2 9 0 rfl
        refine r_bipush (pc' := 34) (v := 12) hx (hd 17) (by decide) rfl ?_
        refine r_iconst (pc' := 35) (v := 0) hx (hd 18) (by decide) rfl ?_
        refine r_callVI (pc' := 38) (As := [.int 12, .int 0]) (rest := []) hx (hd 19) md_X9_put mi_X9_put ms_X9_put ml_5_86 (cX9_put (xl x) w hL (t + 2) h14 12 0 M12) h14 rfl (by decide) ⟨by omega, by omega⟩ rfl rfl (Nat.le_of_ble_eq_true rfl) (fun r16 => .int r16 :: []) (fun _ => rfl) rfl (fun r16 M15 => ?_)
        refine r_istore (pc' := 40) (L' := [(4, .int r16), (0, .ref t), (1, .int p1), (2, .int v3), (3, .int v4)]) hx (hd 20) (by decide) rfl rfl ?_
        refine r_aload_n (pc' := 41) hx (hd 21) rfl 1 rfl rfl ?_
        refine r_iload_n (pc' := 42) hx (hd 22) rfl 2 rfl rfl ?_
        refine r_callVI (pc' := 45) (As := [.int p1]) (rest := []) hx (hd 23) md_X5_readBoth mi_X5_readBoth ms_X5_readBoth ml_5_83 (cX5_readBoth (xl x) w hL t ht p1 rT frT loT hT M15) ht rfl (by decide) ⟨by omega, by omega⟩ rfl rfl (Nat.le_of_ble_eq_true rfl) (fun r18 => .int r18 :: []) (fun _ => rfl) rfl (fun r18 M17 => ?_)
        refine r_istore_n (pc' := 46) (L' := [(2, .int r18), (4, .int r16), (0, .ref t), (1, .int p1), (3, .int v4)]) hx (hd 24) rfl (by decide) rfl rfl ?_
        refine r_aload_n (pc' := 47) hx (hd 25) rfl 2 rfl rfl ?_
        refine r_get (pc' := 50) (v := .ref (t + 2)) hx (hd 26) fl_5_18 ht rfl (by decide) rfl ?_
        have h19 := hL.1 _ _ _ ht 1 2 9 0 rfl
        refine r_iload (pc' := 52) hx (hd 27) 1 rfl rfl ?_
        refine r_callVU (pc' := 55) (As := [.int r16]) (rest := []) hx (hd 28) md_X9_leaveToHere mi_X9_leaveToHere ms_X9_leaveToHere ml_5_90 (cX9_leaveToHere (xl x) w hL (t + 2) h19 r16 M17) h19 rfl (by decide) ⟨by omega, by omega⟩ rfl rfl (Nat.le_of_ble_eq_true rfl) rfl (fun M20 => ?_)
        refine r_iinc (pc' := 58) (v := 1) hx (hd 29) 4 rfl (by decide) (by decide) (fun v21 => [(3, .int v21), (2, .int r18), (4, .int r16), (0, .ref t), (1, .int p1)]) (fun _ => rfl) rfl (fun v21 => ?_)
        refine r_goto (tgt := 8) hx (hd 30) (by decide) ?_
        refine r_sub [3, 4, 1, 0] rfl ?_
        exact ih7 r18 v21 M20
theorem gX5_readTest (l : Launch) (w : WX) (hL : Lay w) : ∀ (n : Nat) (t : Nat) (ht : Wat w t 5 0) (p1 : Int32) (M : Mem), Ct l w yX5_readTest prog_7_method_6_code 5 (Option.some FieldType.boolean) (113 * n) (2802 * n) evIM emM [.ref t, .int p1] M (GX5_readTest n t p1 M)
  | 0, _, _, _, _ => fun _ h => by cases h
  | n + 1, t, ht, p1, M => cX5_readTest l w hL t ht p1 (GX5_readTest n) (113 * n) (2802 * n) (gX5_readTest l w hL n) M
theorem cX5_readTestR (l : Launch) (w : WX) (hL : Lay w) (t : Nat) (ht : Wat w t 5 0) (p1 : Int32) (M : Mem) : Ct l w yX5_readTest prog_7_method_6_code 5 (Option.some FieldType.boolean) 1130 28020 evIM emM [.ref t, .int p1] M (FX5_readTestR t p1 M) := gX5_readTest l w hL 10 t ht p1 M
abbrev yX5_readClause : MethodName := ({ cls := "CribbageRoom$Reader", name := "readClause", desc := "()Z" } : Jvm.MethodName)
def tbX5_readClause : List (Nat × Instr × Nat) := [(0, .aload_n 0, 1), (1, .getfield 18, 3), (4, .getfield 40, 3), (7, .bipush 12, 2), (9, .if_icmp .ge 11, 3), (12, .aload_n 0, 1), (13, .getfield 57, 3), (16, .iconst 1, 1), (17, .if_icmp .eq 5, 3), (20, .iconst 0, 1), (21, .ireturn, 1), (22, .aload_n 0, 1), (23, .getfield 63, 3), (26, .istore_n 1, 1), (27, .iload_n 1, 1), (28, .aload_n 0, 1), (29, .getfield 29, 3), (32, .ifCond .eq 7, 3), (35, .iconst 0, 1), (36, .goto 5, 3), (39, .bipush 7, 2), (41, .if_icmp .lt 21, 3), (44, .iload_n 1, 1), (45, .aload_n 0, 1), (46, .getfield 29, 3), (49, .ifCond .eq 8, 3), (52, .bipush 6, 2), (54, .goto 5, 3), (57, .bipush 10, 2), (59, .if_icmp .le 5, 3), (62, .iconst 0, 1), (63, .ireturn, 1), (64, .aload_n 0, 1), (65, .getfield 18, 3), (68, .iconst 0, 1), (69, .iload_n 1, 1), (70, .invokevirtual 66, 3), (73, .aload_n 0, 1), (74, .getfield 18, 3), (77, .iconst 1, 1), (78, .iconst 1, 1), (79, .invokevirtual 66, 3), (82, .aload_n 0, 1), (83, .invokevirtual 46, 3), (86, .pop, 1), (87, .aload_n 0, 1), (88, .getfield 18, 3), (91, .iconst 2, 1), (92, .aload_n 0, 1), (93, .getfield 18, 3), (96, .getfield 39, 3), (99, .invokevirtual 66, 3), (102, .iload_n 1, 1), (103, .bipush 6, 2), (105, .if_icmp .eq 19, 3), (108, .iload_n 1, 1), (109, .bipush 9, 2), (111, .if_icmp .eq 13, 3), (114, .aload_n 0, 1), (115, .iconst 0, 1), (116, .invokevirtual 70, 3), (119, .ifCond .ne 5, 3), (122, .iconst 0, 1), (123, .ireturn, 1), (124, .aload_n 0, 1), (125, .getfield 18, 3), (128, .iconst 3, 1), (129, .aload_n 0, 1), (130, .getfield 18, 3), (133, .getfield 39, 3), (136, .invokevirtual 66, 3), (139, .iload_n 1, 1), (140, .bipush 7, 2), (142, .if_icmp .eq 9, 3), (145, .iload_n 1, 1), (146, .bipush 8, 2), (148, .if_icmp .ne 22, 3), (151, .aload_n 0, 1), (152, .bipush 25, 2), (154, .invokevirtual 74, 3), (157, .ifCond .eq 11, 3), (160, .aload_n 0, 1), (161, .iconst 0, 1), (162, .invokevirtual 70, 3), (165, .ifCond .ne 5, 3), (168, .iconst 0, 1), (169, .ireturn, 1), (170, .aload_n 0, 1), (171, .getfield 29, 3), (174, .ifCond .ne 21, 3), (177, .aload_n 0, 1), (178, .bipush 24, 2), (180, .invokevirtual 74, 3), (183, .ifCond .eq 12, 3), (186, .aload_n 0, 1), (187, .invokevirtual 77, 3), (190, .ifCond .ne 5, 3), (193, .iconst 0, 1), (194, .ireturn, 1), (195, .aload_n 0, 1), (196, .getfield 18, 3), (199, .iconst 4, 1), (200, .aload_n 0, 1), (201, .getfield 18, 3), (204, .getfield 39, 3), (207, .invokevirtual 66, 3), (210, .aload_n 0, 1), (211, .bipush 23, 2), (213, .invokevirtual 74, 3), (216, .ifCond .eq 13, 3), (219, .aload_n 0, 1), (220, .iconst 0, 1), (221, .invokevirtual 80, 3), (224, .ifCond .ne 5, 3), (227, .iconst 0, 1), (228, .ireturn, 1), (229, .aload_n 0, 1), (230, .getfield 18, 3), (233, .iconst 5, 1), (234, .aload_n 0, 1), (235, .getfield 18, 3), (238, .getfield 39, 3), (241, .invokevirtual 66, 3), (244, .aload_n 0, 1), (245, .getfield 18, 3), (248, .dup, 1), (249, .getfield 40, 3), (252, .iconst 1, 1), (253, .iadd, 1), (254, .putfield 40, 3), (257, .iconst 1, 1), (258, .ireturn, 1)]
theorem dX5_readClause : ∀ q ∈ tbX5_readClause, decode prog_7_method_4_code q.1 = .ok q.2 := by decide +kernel
set_option maxRecDepth 20000 in
theorem cX5_readClause (l : Launch) (w : WX) (hL : Lay w) (t : Nat) (ht : Wat w t 5 0) (M : Mem) : Ct l w yX5_readClause prog_7_method_4_code 2 (Option.some FieldType.boolean) 1131 28044 evIM emM [.ref t] M (FX5_readClause t M) := by
  refine ct_of (by decide) (Nat.le_of_ble_eq_true rfl) (fun x hl hx hb hz => ?_)
  subst hl
  have hd : ∀ i, DAt (xc x).code (tbX5_readClause[i]?) := fun i => by rw [hb]; exact dat_of dX5_readClause i
  show C x w (Qn x w evIM emM) 2 0 [(0, .ref t)] [] M (FX5_readClause t M)
  unfold FX5_readClause
  refine r_aload_n (pc' := 1) hx (hd 0) rfl 0 rfl rfl ?_
  refine r_get (pc' := 4) (v := .ref (t + 2)) hx (hd 1) fl_5_18 ht rfl (by decide) rfl ?_
  have h1 := hL.1 _ _ _ ht 1 2 9 0 rfl
  refine r_get (pc' := 7) (v := .int (mI M (t + 2) 3)) hx (hd 2) fl_5_40 h1 rfl (by decide) rfl ?_
  refine r_bipush (pc' := 9) (v := 12) hx (hd 3) (by decide) rfl ?_
  refine r_jn0 20 ([]) ([]) (M) (?_) (fun j2 hj3 => ?_)
  · skip
    refine r_iconst (pc' := 21) (v := 0) hx (hd 9) (by decide) rfl ?_
    exact r_zret hx (hd 10) rfl rfl rfl hz
  refine r_icmp_ge (tgt := 20) (pc' := 12) hx (hd 4) (by decide) (fun _ => ?_) rfl (fun _ => ?_)
  · skip
    refine r_sub [] rfl ?_
    exact hj3
  · skip
    refine r_aload_n (pc' := 13) hx (hd 5) rfl 0 rfl rfl ?_
    refine r_get (pc' := 16) (v := .int (mI M t 8)) hx (hd 6) fl_5_57 ht rfl (by decide) rfl ?_
    refine r_iconst (pc' := 17) (v := 1) hx (hd 7) (by decide) rfl ?_
    refine r_icmp_eq (tgt := 22) (pc' := 20) hx (hd 8) (by decide) (fun _ => ?_) rfl (fun _ => ?_)
    · skip
      refine r_aload_n (pc' := 23) hx (hd 11) rfl 0 rfl rfl ?_
      refine r_get (pc' := 26) (v := .int (mI M t 9)) hx (hd 12) fl_5_63 ht rfl (by decide) rfl ?_
      refine r_nmI (fun v4 => ?_)
      refine r_istore_n (pc' := 27) (L' := [(1, .int v4), (0, .ref t)]) hx (hd 13) rfl (by decide) rfl rfl ?_
      refine r_iload_n (pc' := 28) hx (hd 14) rfl 0 rfl rfl ?_
      refine r_aload_n (pc' := 29) hx (hd 15) rfl 1 rfl rfl ?_
      refine r_get (pc' := 32) (v := .int (mI M t 4)) hx (hd 16) fl_5_29 ht rfl (by decide) rfl ?_
      refine r_jn1 41 (fun v5 => [(0, .ref t), (1, .int v4)]) (fun v5 => [.int v5, .int v4]) (fun v5 => M) (fun v5 => ?_) (fun j6 hj7 => ?_)
      · skip
        refine r_jn0 62 ([]) ([]) (M) (?_) (fun j8 hj9 => ?_)
        · skip
          refine r_iconst (pc' := 63) (v := 0) hx (hd 30) (by decide) rfl ?_
          exact r_zret hx (hd 31) rfl rfl rfl hz
        refine r_icmp_lt (tgt := 62) (pc' := 44) hx (hd 21) (by decide) (fun _ => ?_) rfl (fun _ => ?_)
        · skip
          refine r_sub [] rfl ?_
          exact hj9
        · skip
          refine r_iload_n (pc' := 45) hx (hd 22) rfl 1 rfl rfl ?_
          refine r_aload_n (pc' := 46) hx (hd 23) rfl 0 rfl rfl ?_
          refine r_get (pc' := 49) (v := .int (mI M t 4)) hx (hd 24) fl_5_29 ht rfl (by decide) rfl ?_
          refine r_jn1 59 (fun v10 => [(0, .ref t), (1, .int v4)]) (fun v10 => [.int v10, .int v4]) (fun v10 => M) (fun v10 => ?_) (fun j11 hj12 => ?_)
          · skip
            refine r_icmp_le (tgt := 64) (pc' := 62) hx (hd 29) (by decide) (fun _ => ?_) rfl (fun _ => ?_)
            · skip
              refine r_aload_n (pc' := 65) hx (hd 32) rfl 0 rfl rfl ?_
              refine r_get (pc' := 68) (v := .ref (t + 2)) hx (hd 33) fl_5_18 ht rfl (by decide) rfl ?_
              have h13 := hL.1 _ _ _ ht 1 2 9 0 rfl
              refine r_iconst (pc' := 69) (v := 0) hx (hd 34) (by decide) rfl ?_
              refine r_iload_n (pc' := 70) hx (hd 35) rfl 1 rfl rfl ?_
              refine r_callVU (pc' := 73) (As := [.int 0, .int v4]) (rest := []) hx (hd 36) md_X9_mark mi_X9_mark ms_X9_mark ml_5_66 (cX9_mark (xl x) w hL (t + 2) h13 0 v4 M) h13 rfl (by decide) ⟨Nat.le_of_ble_eq_true rfl, Nat.le_of_ble_eq_true rfl⟩ rfl rfl (Nat.le_of_ble_eq_true rfl) rfl (fun M14 => ?_)
              refine r_aload_n (pc' := 74) hx (hd 37) rfl 0 rfl rfl ?_
              refine r_get (pc' := 77) (v := .ref (t + 2)) hx (hd 38) fl_5_18 ht rfl (by decide) rfl ?_
              have h15 := hL.1 _ _ _ ht 1 2 9 0 rfl
              refine r_iconst (pc' := 78) (v := 1) hx (hd 39) (by decide) rfl ?_
              refine r_iconst (pc' := 79) (v := 1) hx (hd 40) (by decide) rfl ?_
              refine r_callVU (pc' := 82) (As := [.int 1, .int 1]) (rest := []) hx (hd 41) md_X9_mark mi_X9_mark ms_X9_mark ml_5_66 (cX9_mark (xl x) w hL (t + 2) h15 1 1 M14) h15 rfl (by decide) ⟨Nat.le_of_ble_eq_true rfl, Nat.le_of_ble_eq_true rfl⟩ rfl rfl (Nat.le_of_ble_eq_true rfl) rfl (fun M16 => ?_)
              refine r_aload_n (pc' := 83) hx (hd 42) rfl 0 rfl rfl ?_
              refine r_callVI (pc' := 86) (As := []) (rest := []) hx (hd 43) md_X5_advance mi_X5_advance ms_X5_advance ml_5_46 (cX5_advance (xl x) w hL t ht M16) ht rfl (by decide) ⟨Nat.le_of_ble_eq_true rfl, Nat.le_of_ble_eq_true rfl⟩ rfl rfl (Nat.le_of_ble_eq_true rfl) (fun r18 => .int r18 :: []) (fun _ => rfl) rfl (fun r18 M17 => ?_)
              refine r_pop (pc' := 87) hx (hd 44) rfl rfl ?_
              refine r_aload_n (pc' := 88) hx (hd 45) rfl 0 rfl rfl ?_
              refine r_get (pc' := 91) (v := .ref (t + 2)) hx (hd 46) fl_5_18 ht rfl (by decide) rfl ?_
              have h19 := hL.1 _ _ _ ht 1 2 9 0 rfl
              refine r_iconst (pc' := 92) (v := 2) hx (hd 47) (by decide) rfl ?_
              refine r_aload_n (pc' := 93) hx (hd 48) rfl 0 rfl rfl ?_
              refine r_get (pc' := 96) (v := .ref (t + 2)) hx (hd 49) fl_5_18 ht rfl (by decide) rfl ?_
              have h20 := hL.1 _ _ _ ht 1 2 9 0 rfl
              refine r_get (pc' := 99) (v := .int (mI M17 (t + 2) 2)) hx (hd 50) fl_5_39 h20 rfl (by decide) rfl ?_
              refine r_callVU (pc' := 102) (As := [.int 2, .int (mI M17 (t + 2) 2)]) (rest := []) hx (hd 51) md_X9_mark mi_X9_mark ms_X9_mark ml_5_66 (cX9_mark (xl x) w hL (t + 2) h19 2 (mI M17 (t + 2) 2) M17) h19 rfl (by decide) ⟨Nat.le_of_ble_eq_true rfl, Nat.le_of_ble_eq_true rfl⟩ rfl rfl (Nat.le_of_ble_eq_true rfl) rfl (fun M21 => ?_)
              refine r_iload_n (pc' := 103) hx (hd 52) rfl 1 rfl rfl ?_
              refine r_bipush (pc' := 105) (v := 6) hx (hd 53) (by decide) rfl ?_
              refine r_jn1 124 (fun M22 => [(0, .ref t), (1, .int v4)]) (fun M22 => []) (fun M22 => M22) (fun M22 => ?_) (fun j23 hj24 => ?_)
              · skip
                refine r_aload_n (pc' := 125) hx (hd 64) rfl 0 rfl rfl ?_
                refine r_get (pc' := 128) (v := .ref (t + 2)) hx (hd 65) fl_5_18 ht rfl (by decide) rfl ?_
                have h25 := hL.1 _ _ _ ht 1 2 9 0 rfl
                refine r_iconst (pc' := 129) (v := 3) hx (hd 66) (by decide) rfl ?_
                refine r_aload_n (pc' := 130) hx (hd 67) rfl 0 rfl rfl ?_
                refine r_get (pc' := 133) (v := .ref (t + 2)) hx (hd 68) fl_5_18 ht rfl (by decide) rfl ?_
                have h26 := hL.1 _ _ _ ht 1 2 9 0 rfl
                refine r_get (pc' := 136) (v := .int (mI M22 (t + 2) 2)) hx (hd 69) fl_5_39 h26 rfl (by decide) rfl ?_
                refine r_callVU (pc' := 139) (As := [.int 3, .int (mI M22 (t + 2) 2)]) (rest := []) hx (hd 70) md_X9_mark mi_X9_mark ms_X9_mark ml_5_66 (cX9_mark (xl x) w hL (t + 2) h25 3 (mI M22 (t + 2) 2) M22) h25 rfl (by decide) ⟨Nat.le_of_ble_eq_true rfl, Nat.le_of_ble_eq_true rfl⟩ rfl rfl (Nat.le_of_ble_eq_true rfl) rfl (fun M27 => ?_)
                refine r_iload_n (pc' := 140) hx (hd 71) rfl 1 rfl rfl ?_
                refine r_bipush (pc' := 142) (v := 7) hx (hd 72) (by decide) rfl ?_
                refine r_jn1 170 (fun M28 => [(0, .ref t)]) (fun M28 => []) (fun M28 => M28) (fun M28 => ?_) (fun j29 hj30 => ?_)
                · skip
                  refine r_aload_n (pc' := 171) hx (hd 87) rfl 0 rfl rfl ?_
                  refine r_get (pc' := 174) (v := .int (mI M28 t 4)) hx (hd 88) fl_5_29 ht rfl (by decide) rfl ?_
                  refine r_jn1 195 (fun M31 => [(0, .ref t)]) (fun M31 => []) (fun M31 => M31) (fun M31 => ?_) (fun j32 hj33 => ?_)
                  · skip
                    refine r_aload_n (pc' := 196) hx (hd 99) rfl 0 rfl rfl ?_
                    refine r_get (pc' := 199) (v := .ref (t + 2)) hx (hd 100) fl_5_18 ht rfl (by decide) rfl ?_
                    have h34 := hL.1 _ _ _ ht 1 2 9 0 rfl
                    refine r_iconst (pc' := 200) (v := 4) hx (hd 101) (by decide) rfl ?_
                    refine r_aload_n (pc' := 201) hx (hd 102) rfl 0 rfl rfl ?_
                    refine r_get (pc' := 204) (v := .ref (t + 2)) hx (hd 103) fl_5_18 ht rfl (by decide) rfl ?_
                    have h35 := hL.1 _ _ _ ht 1 2 9 0 rfl
                    refine r_get (pc' := 207) (v := .int (mI M31 (t + 2) 2)) hx (hd 104) fl_5_39 h35 rfl (by decide) rfl ?_
                    refine r_callVU (pc' := 210) (As := [.int 4, .int (mI M31 (t + 2) 2)]) (rest := []) hx (hd 105) md_X9_mark mi_X9_mark ms_X9_mark ml_5_66 (cX9_mark (xl x) w hL (t + 2) h34 4 (mI M31 (t + 2) 2) M31) h34 rfl (by decide) ⟨Nat.le_of_ble_eq_true rfl, Nat.le_of_ble_eq_true rfl⟩ rfl rfl (Nat.le_of_ble_eq_true rfl) rfl (fun M36 => ?_)
                    refine r_aload_n (pc' := 211) hx (hd 106) rfl 0 rfl rfl ?_
                    refine r_bipush (pc' := 213) (v := 23) hx (hd 107) (by decide) rfl ?_
                    refine r_callVI (pc' := 216) (As := [.int 23]) (rest := []) hx (hd 108) md_X5_skipWord mi_X5_skipWord ms_X5_skipWord ml_5_74 (cX5_skipWord (xl x) w hL t ht 23 M36) ht rfl (by decide) ⟨Nat.le_of_ble_eq_true rfl, Nat.le_of_ble_eq_true rfl⟩ rfl rfl (Nat.le_of_ble_eq_true rfl) (fun r38 => .int r38 :: []) (fun _ => rfl) rfl (fun r38 M37 => ?_)
                    refine r_jn1 229 (fun M39 => [(0, .ref t)]) (fun M39 => []) (fun M39 => M39) (fun M39 => ?_) (fun j40 hj41 => ?_)
                    · skip
                      refine r_aload_n (pc' := 230) hx (hd 116) rfl 0 rfl rfl ?_
                      refine r_get (pc' := 233) (v := .ref (t + 2)) hx (hd 117) fl_5_18 ht rfl (by decide) rfl ?_
                      have h42 := hL.1 _ _ _ ht 1 2 9 0 rfl
                      refine r_iconst (pc' := 234) (v := 5) hx (hd 118) (by decide) rfl ?_
                      refine r_aload_n (pc' := 235) hx (hd 119) rfl 0 rfl rfl ?_
                      refine r_get (pc' := 238) (v := .ref (t + 2)) hx (hd 120) fl_5_18 ht rfl (by decide) rfl ?_
                      have h43 := hL.1 _ _ _ ht 1 2 9 0 rfl
                      refine r_get (pc' := 241) (v := .int (mI M39 (t + 2) 2)) hx (hd 121) fl_5_39 h43 rfl (by decide) rfl ?_
                      refine r_callVU (pc' := 244) (As := [.int 5, .int (mI M39 (t + 2) 2)]) (rest := []) hx (hd 122) md_X9_mark mi_X9_mark ms_X9_mark ml_5_66 (cX9_mark (xl x) w hL (t + 2) h42 5 (mI M39 (t + 2) 2) M39) h42 rfl (by decide) ⟨Nat.le_of_ble_eq_true rfl, Nat.le_of_ble_eq_true rfl⟩ rfl rfl (Nat.le_of_ble_eq_true rfl) rfl (fun M44 => ?_)
                      refine r_aload_n (pc' := 245) hx (hd 123) rfl 0 rfl rfl ?_
                      refine r_get (pc' := 248) (v := .ref (t + 2)) hx (hd 124) fl_5_18 ht rfl (by decide) rfl ?_
                      have h45 := hL.1 _ _ _ ht 1 2 9 0 rfl
                      refine r_dup (pc' := 249) hx (hd 125) rfl rfl ?_
                      refine r_get (pc' := 252) (v := .int (mI M44 (t + 2) 3)) hx (hd 126) fl_5_40 h45 rfl (by decide) rfl ?_
                      refine r_iconst (pc' := 253) (v := 1) hx (hd 127) (by decide) rfl ?_
                      refine r_iadd (pc' := 254) hx (hd 128) rfl ?_
                      refine r_putI (pc' := 257) hx (hd 129) fp_5_40 h45 rfl (by decide) rfl (fun M46 => ?_)
                      refine r_iconst (pc' := 258) (v := 1) hx (hd 130) (by decide) rfl ?_
                      exact r_zret hx (hd 131) rfl rfl rfl hz
                    refine r_if_eq (tgt := 229) (pc' := 219) hx (hd 109) (by decide) (fun _ => ?_) rfl (fun _ => ?_)
                    · skip
                      exact hj41 M37
                    · skip
                      refine r_aload_n (pc' := 220) hx (hd 110) rfl 0 rfl rfl ?_
                      refine r_iconst (pc' := 221) (v := 0) hx (hd 111) (by decide) rfl ?_
                      refine r_callVI (pc' := 224) (As := [.int 0]) (rest := []) hx (hd 112) md_X5_readTest mi_X5_readTest ms_X5_readTest ml_5_80 (cX5_readTestR (xl x) w hL t ht 0 M37) ht rfl (by decide) ⟨Nat.le_of_ble_eq_true rfl, Nat.le_of_ble_eq_true rfl⟩ rfl rfl (Nat.le_of_ble_eq_true rfl) (fun r48 => .int r48 :: []) (fun _ => rfl) rfl (fun r48 M47 => ?_)
                      refine r_if_ne (tgt := 229) (pc' := 227) hx (hd 113) (by decide) (fun _ => ?_) rfl (fun _ => ?_)
                      · skip
                        exact hj41 M47
                      · skip
                        refine r_iconst (pc' := 228) (v := 0) hx (hd 114) (by decide) rfl ?_
                        exact r_zret hx (hd 115) rfl rfl rfl hz
                  refine r_if_ne (tgt := 195) (pc' := 177) hx (hd 89) (by decide) (fun _ => ?_) rfl (fun _ => ?_)
                  · skip
                    exact hj33 M28
                  · skip
                    refine r_aload_n (pc' := 178) hx (hd 90) rfl 0 rfl rfl ?_
                    refine r_bipush (pc' := 180) (v := 24) hx (hd 91) (by decide) rfl ?_
                    refine r_callVI (pc' := 183) (As := [.int 24]) (rest := []) hx (hd 92) md_X5_skipWord mi_X5_skipWord ms_X5_skipWord ml_5_74 (cX5_skipWord (xl x) w hL t ht 24 M28) ht rfl (by decide) ⟨Nat.le_of_ble_eq_true rfl, Nat.le_of_ble_eq_true rfl⟩ rfl rfl (Nat.le_of_ble_eq_true rfl) (fun r50 => .int r50 :: []) (fun _ => rfl) rfl (fun r50 M49 => ?_)
                    refine r_if_eq (tgt := 195) (pc' := 186) hx (hd 93) (by decide) (fun _ => ?_) rfl (fun _ => ?_)
                    · skip
                      exact hj33 M49
                    · skip
                      refine r_aload_n (pc' := 187) hx (hd 94) rfl 0 rfl rfl ?_
                      refine r_callVI (pc' := 190) (As := []) (rest := []) hx (hd 95) md_X5_readTimes mi_X5_readTimes ms_X5_readTimes ml_5_77 (cX5_readTimes (xl x) w hL t ht M49) ht rfl (by decide) ⟨Nat.le_of_ble_eq_true rfl, Nat.le_of_ble_eq_true rfl⟩ rfl rfl (Nat.le_of_ble_eq_true rfl) (fun r52 => .int r52 :: []) (fun _ => rfl) rfl (fun r52 M51 => ?_)
                      refine r_if_ne (tgt := 195) (pc' := 193) hx (hd 96) (by decide) (fun _ => ?_) rfl (fun _ => ?_)
                      · skip
                        exact hj33 M51
                      · skip
                        refine r_iconst (pc' := 194) (v := 0) hx (hd 97) (by decide) rfl ?_
                        exact r_zret hx (hd 98) rfl rfl rfl hz
                refine r_jn0 151 ([(0, .ref t)]) ([]) (M27) (?_) (fun j53 hj54 => ?_)
                · skip
                  refine r_aload_n (pc' := 152) hx (hd 77) rfl 0 rfl rfl ?_
                  refine r_bipush (pc' := 154) (v := 25) hx (hd 78) (by decide) rfl ?_
                  refine r_callVI (pc' := 157) (As := [.int 25]) (rest := []) hx (hd 79) md_X5_skipWord mi_X5_skipWord ms_X5_skipWord ml_5_74 (cX5_skipWord (xl x) w hL t ht 25 M27) ht rfl (by decide) ⟨Nat.le_of_ble_eq_true rfl, Nat.le_of_ble_eq_true rfl⟩ rfl rfl (Nat.le_of_ble_eq_true rfl) (fun r56 => .int r56 :: []) (fun _ => rfl) rfl (fun r56 M55 => ?_)
                  refine r_jn1 168 (fun M57 => []) (fun M57 => []) (fun M57 => M57) (fun M57 => ?_) (fun j58 hj59 => ?_)
                  · skip
                    refine r_iconst (pc' := 169) (v := 0) hx (hd 85) (by decide) rfl ?_
                    exact r_zret hx (hd 86) rfl rfl rfl hz
                  refine r_if_eq (tgt := 168) (pc' := 160) hx (hd 80) (by decide) (fun _ => ?_) rfl (fun _ => ?_)
                  · skip
                    refine r_sub [] rfl ?_
                    exact hj59 M55
                  · skip
                    refine r_aload_n (pc' := 161) hx (hd 81) rfl 0 rfl rfl ?_
                    refine r_iconst (pc' := 162) (v := 0) hx (hd 82) (by decide) rfl ?_
                    refine r_callVI (pc' := 165) (As := [.int 0]) (rest := []) hx (hd 83) md_X5_readSum mi_X5_readSum ms_X5_readSum ml_5_70 (cX5_readSumR (xl x) w hL t ht 0 M55) ht rfl (by decide) ⟨Nat.le_of_ble_eq_true rfl, Nat.le_of_ble_eq_true rfl⟩ rfl rfl (Nat.le_of_ble_eq_true rfl) (fun r61 => .int r61 :: []) (fun _ => rfl) rfl (fun r61 M60 => ?_)
                    refine r_if_ne (tgt := 170) (pc' := 168) hx (hd 84) (by decide) (fun _ => ?_) rfl (fun _ => ?_)
                    · skip
                      exact hj30 M60
                    · skip
                      refine r_sub [] rfl ?_
                      exact hj59 M60
                refine r_icmp_eq (tgt := 151) (pc' := 145) hx (hd 73) (by decide) (fun _ => ?_) rfl (fun _ => ?_)
                · skip
                  refine r_sub [0] rfl ?_
                  exact hj54
                · skip
                  refine r_iload_n (pc' := 146) hx (hd 74) rfl 1 rfl rfl ?_
                  refine r_bipush (pc' := 148) (v := 8) hx (hd 75) (by decide) rfl ?_
                  refine r_icmp_ne (tgt := 170) (pc' := 151) hx (hd 76) (by decide) (fun _ => ?_) rfl (fun _ => ?_)
                  · skip
                    refine r_sub [0] rfl ?_
                    exact hj30 M27
                  · skip
                    refine r_sub [0] rfl ?_
                    exact hj54
              refine r_icmp_eq (tgt := 124) (pc' := 108) hx (hd 54) (by decide) (fun _ => ?_) rfl (fun _ => ?_)
              · skip
                exact hj24 M21
              · skip
                refine r_iload_n (pc' := 109) hx (hd 55) rfl 1 rfl rfl ?_
                refine r_bipush (pc' := 111) (v := 9) hx (hd 56) (by decide) rfl ?_
                refine r_icmp_eq (tgt := 124) (pc' := 114) hx (hd 57) (by decide) (fun _ => ?_) rfl (fun _ => ?_)
                · skip
                  exact hj24 M21
                · skip
                  refine r_aload_n (pc' := 115) hx (hd 58) rfl 0 rfl rfl ?_
                  refine r_iconst (pc' := 116) (v := 0) hx (hd 59) (by decide) rfl ?_
                  refine r_callVI (pc' := 119) (As := [.int 0]) (rest := []) hx (hd 60) md_X5_readSum mi_X5_readSum ms_X5_readSum ml_5_70 (cX5_readSumR (xl x) w hL t ht 0 M21) ht rfl (by decide) ⟨Nat.le_of_ble_eq_true rfl, Nat.le_of_ble_eq_true rfl⟩ rfl rfl (Nat.le_of_ble_eq_true rfl) (fun r63 => .int r63 :: []) (fun _ => rfl) rfl (fun r63 M62 => ?_)
                  refine r_if_ne (tgt := 124) (pc' := 122) hx (hd 61) (by decide) (fun _ => ?_) rfl (fun _ => ?_)
                  · skip
                    exact hj24 M62
                  · skip
                    refine r_iconst (pc' := 123) (v := 0) hx (hd 62) (by decide) rfl ?_
                    exact r_zret hx (hd 63) rfl rfl rfl hz
            · skip
              refine r_sub [] rfl ?_
              exact hj9
          refine r_if_eq (tgt := 57) (pc' := 52) hx (hd 25) (by decide) (fun _ => ?_) rfl (fun _ => ?_)
          · skip
            refine r_bipush (pc' := 59) (v := 10) hx (hd 28) (by decide) rfl ?_
            exact hj12 10
          · skip
            refine r_bipush (pc' := 54) (v := 6) hx (hd 26) (by decide) rfl ?_
            refine r_goto (tgt := 59) hx (hd 27) (by decide) ?_
            exact hj12 6
      refine r_if_eq (tgt := 39) (pc' := 35) hx (hd 17) (by decide) (fun _ => ?_) rfl (fun _ => ?_)
      · skip
        refine r_bipush (pc' := 41) (v := 7) hx (hd 20) (by decide) rfl ?_
        refine r_sub [1, 0] rfl ?_
        exact hj7 7
      · skip
        refine r_iconst (pc' := 36) (v := 0) hx (hd 18) (by decide) rfl ?_
        refine r_goto (tgt := 41) hx (hd 19) (by decide) ?_
        refine r_sub [1, 0] rfl ?_
        exact hj7 0
    · skip
      refine r_sub [] rfl ?_
      exact hj3
abbrev yX5_readText : MethodName := ({ cls := "CribbageRoom$Reader", name := "readText", desc := "(Z)Z" } : Jvm.MethodName)
def tbX5_readText : List (Nat × Instr × Nat) := [(0, .aload_n 0, 1), (1, .iload_n 1, 1), (2, .putfield 29, 3), (5, .aload_n 0, 1), (6, .iconst 0, 1), (7, .putfield 33, 3), (10, .aload_n 0, 1), (11, .iconst 0, 1), (12, .putfield 36, 3), (15, .aload_n 0, 1), (16, .getfield 18, 3), (19, .iconst 0, 1), (20, .putfield 39, 3), (23, .aload_n 0, 1), (24, .getfield 18, 3), (27, .iconst 0, 1), (28, .putfield 40, 3), (31, .aload_n 0, 1), (32, .getfield 18, 3), (35, .iconst 0, 1), (36, .putfield 43, 3), (39, .aload_n 0, 1), (40, .invokevirtual 46, 3), (43, .pop, 1), (44, .aload_n 0, 1), (45, .invokevirtual 50, 3), (48, .istore_n 2, 1), (49, .iconst 0, 1), (50, .istore_n 3, 1), (51, .iload_n 3, 1), (52, .sipush 400, 3), (55, .if_icmp .ge 27, 3), (58, .iload_n 2, 1), (59, .ifCond .eq 23, 3), (62, .aload_n 0, 1), (63, .bipush 59, 2), (65, .invokevirtual 53, 3), (68, .ifCond .eq 14, 3), (71, .aload_n 0, 1), (72, .invokevirtual 50, 3), (75, .istore_n 2, 1), (76, .iinc 3 1, 3), (79, .goto (-28), 3), (82, .iload_n 2, 1), (83, .ifCond .eq 14, 3), (86, .aload_n 0, 1), (87, .getfield 57, 3), (90, .ifCond .ne 7, 3), (93, .iconst 1, 1), (94, .goto 4, 3), (97, .iconst 0, 1), (98, .istore_n 2, 1), (99, .aload_n 0, 1), (100, .iload_n 2, 1), (101, .ifCond .eq 7, 3), (104, .iconst (-1), 1), (105, .goto 7, 3), (108, .aload_n 0, 1), (109, .getfield 60, 3), (112, .putfield 22, 3), (115, .aload_n 0, 1), (116, .iconst 0, 1), (117, .putfield 26, 3), (120, .iload_n 2, 1), (121, .ireturn, 1)]
theorem dX5_readText : ∀ q ∈ tbX5_readText, decode prog_7_method_3_code q.1 = .ok q.2 := by decide +kernel
set_option maxRecDepth 20000 in
theorem cX5_readText (l : Launch) (w : WX) (hL : Lay w) (t : Nat) (ht : Wat w t 5 0) (p1 : Int32) (M : Mem) : Ct l w yX5_readText prog_7_method_3_code 4 (Option.some FieldType.boolean) 1132 28065 evIM emM [.ref t, .int p1] M (FX5_readText t p1 M) := by
  refine ct_of (by decide) (Nat.le_of_ble_eq_true rfl) (fun x hl hx hb hz => ?_)
  subst hl
  have hd : ∀ i, DAt (xc x).code (tbX5_readText[i]?) := fun i => by rw [hb]; exact dat_of dX5_readText i
  show C x w (Qn x w evIM emM) 4 0 [(0, .ref t), (1, .int p1)] [] M (FX5_readText t p1 M)
  unfold FX5_readText
  refine r_aload_n (pc' := 1) hx (hd 0) rfl 0 rfl rfl ?_
  refine r_iload_n (pc' := 2) hx (hd 1) rfl 1 rfl rfl ?_
  refine r_gd (fun h2 => ?_)
  refine r_putZ (pc' := 5) hx (hd 2) fp_5_29 ht rfl (by decide) h2 rfl (fun M1 => ?_)
  refine r_aload_n (pc' := 6) hx (hd 3) rfl 0 rfl rfl ?_
  refine r_iconst (pc' := 7) (v := 0) hx (hd 4) (by decide) rfl ?_
  refine r_putI (pc' := 10) hx (hd 5) fp_5_33 ht rfl (by decide) rfl (fun M3 => ?_)
  refine r_aload_n (pc' := 11) hx (hd 6) rfl 0 rfl rfl ?_
  refine r_iconst (pc' := 12) (v := 0) hx (hd 7) (by decide) rfl ?_
  refine r_putI (pc' := 15) hx (hd 8) fp_5_36 ht rfl (by decide) rfl (fun M4 => ?_)
  refine r_aload_n (pc' := 16) hx (hd 9) rfl 0 rfl rfl ?_
  refine r_get (pc' := 19) (v := .ref (t + 2)) hx (hd 10) fl_5_18 ht rfl (by decide) rfl ?_
  have h5 := hL.1 _ _ _ ht 1 2 9 0 rfl
  refine r_iconst (pc' := 20) (v := 0) hx (hd 11) (by decide) rfl ?_
  refine r_putI (pc' := 23) hx (hd 12) fp_5_39 h5 rfl (by decide) rfl (fun M6 => ?_)
  refine r_aload_n (pc' := 24) hx (hd 13) rfl 0 rfl rfl ?_
  refine r_get (pc' := 27) (v := .ref (t + 2)) hx (hd 14) fl_5_18 ht rfl (by decide) rfl ?_
  have h7 := hL.1 _ _ _ ht 1 2 9 0 rfl
  refine r_iconst (pc' := 28) (v := 0) hx (hd 15) (by decide) rfl ?_
  refine r_putI (pc' := 31) hx (hd 16) fp_5_40 h7 rfl (by decide) rfl (fun M8 => ?_)
  refine r_aload_n (pc' := 32) hx (hd 17) rfl 0 rfl rfl ?_
  refine r_get (pc' := 35) (v := .ref (t + 2)) hx (hd 18) fl_5_18 ht rfl (by decide) rfl ?_
  have h9 := hL.1 _ _ _ ht 1 2 9 0 rfl
  refine r_iconst (pc' := 36) (v := 0) hx (hd 19) (by decide) rfl ?_
  refine r_putZ (pc' := 39) hx (hd 20) fp_5_43 h9 rfl (by decide) rfl rfl (fun M10 => ?_)
  refine r_aload_n (pc' := 40) hx (hd 21) rfl 0 rfl rfl ?_
  refine r_callVI (pc' := 43) (As := []) (rest := []) hx (hd 22) md_X5_advance mi_X5_advance ms_X5_advance ml_5_46 (cX5_advance (xl x) w hL t ht M10) ht rfl (by decide) ⟨Nat.le_of_ble_eq_true rfl, Nat.le_of_ble_eq_true rfl⟩ rfl rfl (Nat.le_of_ble_eq_true rfl) (fun r12 => .int r12 :: []) (fun _ => rfl) rfl (fun r12 M11 => ?_)
  refine r_pop (pc' := 44) hx (hd 23) rfl rfl ?_
  refine r_aload_n (pc' := 45) hx (hd 24) rfl 0 rfl rfl ?_
  refine r_callVI (pc' := 48) (As := []) (rest := []) hx (hd 25) md_X5_readClause mi_X5_readClause ms_X5_readClause ml_5_50 (cX5_readClause (xl x) w hL t ht M11) ht rfl (by decide) ⟨Nat.le_of_ble_eq_true rfl, Nat.le_of_ble_eq_true rfl⟩ rfl rfl (Nat.le_of_ble_eq_true rfl) (fun r14 => .int r14 :: []) (fun _ => rfl) rfl (fun r14 M13 => ?_)
  refine r_istore_n (pc' := 49) (L' := [(2, .int r14), (0, .ref t), (1, .int p1)]) hx (hd 26) rfl (by decide) rfl rfl ?_
  refine r_iconst (pc' := 50) (v := 0) hx (hd 27) (by decide) rfl ?_
  refine r_istore_n (pc' := 51) (L' := [(3, .int 0), (2, .int r14), (0, .ref t), (1, .int p1)]) hx (hd 28) rfl (by decide) rfl rfl ?_
  refine r_sub [2, 1, 0] rfl ?_
  refine r_wl3 (fun v15 v16 M17 => [(0, .ref t), (2, .int v15), (3, .int v16)]) (fun v15 v16 M17 => []) (fun v15 v16 M17 => M17) (fun v15 v16 M17 rec18 ih19 => ?_) fuel r14 0 M13
  refine r_iload_n (pc' := 52) hx (hd 29) rfl 2 rfl rfl ?_
  refine r_sipush (pc' := 55) (v := 400) hx (hd 30) (by decide) rfl ?_
  refine r_jn1 82 (fun M20 => [(0, .ref t), (2, .int v15)]) (fun M20 => []) (fun M20 => M20) (fun M20 => ?_) (fun j21 hj22 => ?_)
  · skip
    refine r_iload_n (pc' := 83) hx (hd 43) rfl 1 rfl rfl ?_
    refine r_jn1 98 (fun v23 => [(0, .ref t)]) (fun v23 => [.int v23]) (fun v23 => M20) (fun v23 => ?_) (fun j24 hj25 => ?_)
    · skip
      refine r_istore_n (pc' := 99) (L' := [(2, .int v23), (0, .ref t)]) hx (hd 51) rfl (by decide) rfl rfl ?_
      refine r_aload_n (pc' := 100) hx (hd 52) rfl 1 rfl rfl ?_
      refine r_iload_n (pc' := 101) hx (hd 53) rfl 0 rfl rfl ?_
      refine r_jn1 112 (fun v26 => [(0, .ref t), (2, .int v23)]) (fun v26 => [.int v26, .ref t]) (fun v26 => M20) (fun v26 => ?_) (fun j27 hj28 => ?_)
      · skip
        refine r_putI (pc' := 115) hx (hd 59) fp_5_22 ht rfl (by decide) rfl (fun M29 => ?_)
        refine r_aload_n (pc' := 116) hx (hd 60) rfl 0 rfl rfl ?_
        refine r_iconst (pc' := 117) (v := 0) hx (hd 61) (by decide) rfl ?_
        refine r_putI (pc' := 120) hx (hd 62) fp_5_26 ht rfl (by decide) rfl (fun M30 => ?_)
        refine r_iload_n (pc' := 121) hx (hd 63) rfl 1 rfl rfl ?_
        refine r_gd (fun h31 => ?_)
        exact r_zret hx (hd 64) h31 rfl rfl hz
      refine r_if_eq (tgt := 108) (pc' := 104) hx (hd 54) (by decide) (fun _ => ?_) rfl (fun _ => ?_)
      · skip
        refine r_aload_n (pc' := 109) hx (hd 57) rfl 1 rfl rfl ?_
        refine r_get (pc' := 112) (v := .int (mI M20 t 6)) hx (hd 58) fl_5_60 ht rfl (by decide) rfl ?_
        refine r_sub [1, 0] rfl ?_
        exact hj28 (mI M20 t 6)
      · skip
        refine r_iconst (pc' := 105) (v := (-1)) hx (hd 55) (by decide) rfl ?_
        refine r_goto (tgt := 112) hx (hd 56) (by decide) ?_
        refine r_sub [1, 0] rfl ?_
        exact hj28 (-1)
    refine r_jn0 97 ([(0, .ref t)]) ([]) (M20) (?_) (fun j32 hj33 => ?_)
    · skip
      refine r_iconst (pc' := 98) (v := 0) hx (hd 50) (by decide) rfl ?_
      exact hj25 0
    refine r_if_eq (tgt := 97) (pc' := 86) hx (hd 44) (by decide) (fun _ => ?_) rfl (fun _ => ?_)
    · skip
      refine r_sub [0] rfl ?_
      exact hj33
    · skip
      refine r_aload_n (pc' := 87) hx (hd 45) rfl 0 rfl rfl ?_
      refine r_get (pc' := 90) (v := .int (mI M20 t 8)) hx (hd 46) fl_5_57 ht rfl (by decide) rfl ?_
      refine r_if_ne (tgt := 97) (pc' := 93) hx (hd 47) (by decide) (fun _ => ?_) rfl (fun _ => ?_)
      · skip
        refine r_sub [0] rfl ?_
        exact hj33
      · skip
        refine r_iconst (pc' := 94) (v := 1) hx (hd 48) (by decide) rfl ?_
        refine r_goto (tgt := 98) hx (hd 49) (by decide) ?_
        refine r_sub [0] rfl ?_
        exact hj25 1
  refine r_icmp_ge (tgt := 82) (pc' := 58) hx (hd 31) (by decide) (fun _ => ?_) rfl (fun _ => ?_)
  · skip
    refine r_sub [0, 1] rfl ?_
    exact hj22 M17
  · skip
    refine r_iload_n (pc' := 59) hx (hd 32) rfl 1 rfl rfl ?_
    refine r_if_eq (tgt := 82) (pc' := 62) hx (hd 33) (by decide) (fun _ => ?_) rfl (fun _ => ?_)
    · skip
      refine r_sub [0, 1] rfl ?_
      exact hj22 M17
    · skip
      refine r_aload_n (pc' := 63) hx (hd 34) rfl 0 rfl rfl ?_
      refine r_bipush (pc' := 65) (v := 59) hx (hd 35) (by decide) rfl ?_
      refine r_callVI (pc' := 68) (As := [.int 59]) (rest := []) hx (hd 36) md_X5_skipSign mi_X5_skipSign ms_X5_skipSign ml_5_53 (cX5_skipSign (xl x) w hL t ht 59 M17) ht rfl (by decide) ⟨Nat.le_of_ble_eq_true rfl, Nat.le_of_ble_eq_true rfl⟩ rfl rfl (Nat.le_of_ble_eq_true rfl) (fun r35 => .int r35 :: []) (fun _ => rfl) rfl (fun r35 M34 => ?_)
      refine r_if_eq (tgt := 82) (pc' := 71) hx (hd 37) (by decide) (fun _ => ?_) rfl (fun _ => ?_)
      · skip
        refine r_sub [0, 1] rfl ?_
        exact hj22 M34
      · skip
        refine r_aload_n (pc' := 72) hx (hd 38) rfl 0 rfl rfl ?_
        refine r_callVI (pc' := 75) (As := []) (rest := []) hx (hd 39) md_X5_readClause mi_X5_readClause ms_X5_readClause ml_5_50 (cX5_readClause (xl x) w hL t ht M34) ht rfl (by decide) ⟨Nat.le_of_ble_eq_true rfl, Nat.le_of_ble_eq_true rfl⟩ rfl rfl (Nat.le_of_ble_eq_true rfl) (fun r37 => .int r37 :: []) (fun _ => rfl) rfl (fun r37 M36 => ?_)
        refine r_istore_n (pc' := 76) (L' := [(2, .int r37), (0, .ref t), (3, .int v16)]) hx (hd 40) rfl (by decide) rfl rfl ?_
        refine r_iinc (pc' := 79) (v := 1) hx (hd 41) 2 rfl (by decide) (by decide) (fun v38 => [(3, .int v38), (2, .int r37), (0, .ref t)]) (fun _ => rfl) rfl (fun v38 => ?_)
        refine r_goto (tgt := 51) hx (hd 42) (by decide) ?_
        refine r_sub [2, 1, 0] rfl ?_
        exact ih19 r37 v38 M36
abbrev yX8_copyFrom : MethodName := ({ cls := "CribbageRoom$Table", name := "copyFrom", desc := "(LCribbageRoom$Table;)V" } : Jvm.MethodName)
def tbX8_copyFrom : List (Nat × Instr × Nat) := [(0, .aload_n 1, 1), (1, .getfield 9, 3), (4, .iconst 0, 1), (5, .aload_n 0, 1), (6, .getfield 9, 3), (9, .iconst 0, 1), (10, .iconst 2, 1), (11, .invokestatic 38, 3), (14, .aload_n 1, 1), (15, .getfield 15, 3), (18, .iconst 0, 1), (19, .aload_n 0, 1), (20, .getfield 15, 3), (23, .iconst 0, 1), (24, .iconst 2, 1), (25, .invokestatic 38, 3), (28, .aload_n 1, 1), (29, .getfield 19, 3), (32, .iconst 0, 1), (33, .aload_n 0, 1), (34, .getfield 19, 3), (37, .iconst 0, 1), (38, .aload_n 0, 1), (39, .getfield 19, 3), (42, .arraylength, 1), (43, .invokestatic 38, 3), (46, .aload_n 0, 1), (47, .aload_n 1, 1), (48, .getfield 44, 3), (51, .putfield 44, 3), (54, .aload_n 0, 1), (55, .aload_n 1, 1), (56, .getfield 48, 3), (59, .putfield 48, 3), (62, .aload_n 0, 1), (63, .aload_n 1, 1), (64, .getfield 22, 3), (67, .putfield 22, 3), (70, .aload_n 0, 1), (71, .aload_n 1, 1), (72, .getfield 26, 3), (75, .putfield 26, 3), (78, .aload_n 0, 1), (79, .aload_n 1, 1), (80, .getfield 29, 3), (83, .putfield 29, 3), (86, .aload_n 0, 1), (87, .aload_n 1, 1), (88, .getfield 51, 3), (91, .putfield 51, 3), (94, .aload_n 0, 1), (95, .aload_n 1, 1), (96, .getfield 54, 3), (99, .putfield 54, 3), (102, .aload_n 0, 1), (103, .aload_n 1, 1), (104, .getfield 32, 3), (107, .putfield 32, 3), (110, .aload_n 0, 1), (111, .aload_n 1, 1), (112, .getfield 35, 3), (115, .putfield 35, 3), (118, .aload_n 0, 1), (119, .aload_n 1, 1), (120, .getfield 57, 3), (123, .putfield 57, 3), (126, .return_, 1)]
theorem dX8_copyFrom : ∀ q ∈ tbX8_copyFrom, decode prog_10_method_2_code q.1 = .ok q.2 := by decide +kernel
set_option maxRecDepth 20000 in
theorem cX8_copyFrom (l : Launch) (w : WX) (hL : Lay w) (t : Nat) (ht : Wat w t 8 0) (p1 : Nat) (hp1 : Wat w p1 8 0) (M : Mem) : Ct l w yX8_copyFrom prog_10_method_2_code 2 (Option.none : Option FieldType) 1 40 evU emU [.ref t, .ref p1] M (FX8_copyFrom t p1 M) := by
  refine ct_of (by decide) (Nat.le_of_ble_eq_true rfl) (fun x hl hx hb hz => ?_)
  subst hl
  have hd : ∀ i, DAt (xc x).code (tbX8_copyFrom[i]?) := fun i => by rw [hb]; exact dat_of dX8_copyFrom i
  show C x w (Qn x w evU emU) 2 0 [(0, .ref t), (1, .ref p1)] [] M (FX8_copyFrom t p1 M)
  unfold FX8_copyFrom
  refine r_aload_n (pc' := 1) hx (hd 0) rfl 1 rfl rfl ?_
  refine r_get (pc' := 4) (v := .ref (p1 + 1)) hx (hd 1) fl_8_9 hp1 rfl (by decide) rfl ?_
  have h1 := hL.1 _ _ _ hp1 0 1 21 2 rfl
  refine r_iconst (pc' := 5) (v := 0) hx (hd 2) (by decide) rfl ?_
  refine r_aload_n (pc' := 6) hx (hd 3) rfl 0 rfl rfl ?_
  refine r_get (pc' := 9) (v := .ref (t + 1)) hx (hd 4) fl_8_9 ht rfl (by decide) rfl ?_
  have h2 := hL.1 _ _ _ ht 0 1 21 2 rfl
  refine r_iconst (pc' := 10) (v := 0) hx (hd 5) (by decide) rfl ?_
  refine r_iconst (pc' := 11) (v := 2) hx (hd 6) (by decide) rfl ?_
  refine r_copyl (pc' := 14) (s0 := 0) (d0 := 0) (k := 2) hx (hd 7) ml_8_38 ac_nat ac_st ac_ini h1 h2 ⟨by decide, by decide⟩ ⟨by decide, by decide⟩ ⟨by decide, by decide⟩ (by decide) (by decide) ⟨by decide, by decide⟩ rfl (fun M3 => ?_)
  refine r_aload_n (pc' := 15) hx (hd 8) rfl 1 rfl rfl ?_
  refine r_get (pc' := 18) (v := .ref (p1 + 2)) hx (hd 9) fl_8_15 hp1 rfl (by decide) rfl ?_
  have h4 := hL.1 _ _ _ hp1 1 2 20 2 rfl
  refine r_iconst (pc' := 19) (v := 0) hx (hd 10) (by decide) rfl ?_
  refine r_aload_n (pc' := 20) hx (hd 11) rfl 0 rfl rfl ?_
  refine r_get (pc' := 23) (v := .ref (t + 2)) hx (hd 12) fl_8_15 ht rfl (by decide) rfl ?_
  have h5 := hL.1 _ _ _ ht 1 2 20 2 rfl
  refine r_iconst (pc' := 24) (v := 0) hx (hd 13) (by decide) rfl ?_
  refine r_iconst (pc' := 25) (v := 2) hx (hd 14) (by decide) rfl ?_
  refine r_copyi (pc' := 28) (s0 := 0) (d0 := 0) (k := 2) hx (hd 15) ml_8_38 ac_nat ac_st ac_ini h4 h5 ⟨by decide, by decide⟩ ⟨by decide, by decide⟩ ⟨by decide, by decide⟩ (by decide) (by decide) ⟨by decide, by decide⟩ rfl (fun M6 => ?_)
  refine r_aload_n (pc' := 29) hx (hd 16) rfl 1 rfl rfl ?_
  refine r_get (pc' := 32) (v := .ref (p1 + 3)) hx (hd 17) fl_8_19 hp1 rfl (by decide) rfl ?_
  have h7 := hL.1 _ _ _ hp1 2 3 20 8 rfl
  refine r_iconst (pc' := 33) (v := 0) hx (hd 18) (by decide) rfl ?_
  refine r_aload_n (pc' := 34) hx (hd 19) rfl 0 rfl rfl ?_
  refine r_get (pc' := 37) (v := .ref (t + 3)) hx (hd 20) fl_8_19 ht rfl (by decide) rfl ?_
  have h8 := hL.1 _ _ _ ht 2 3 20 8 rfl
  refine r_iconst (pc' := 38) (v := 0) hx (hd 21) (by decide) rfl ?_
  refine r_aload_n (pc' := 39) hx (hd 22) rfl 0 rfl rfl ?_
  refine r_get (pc' := 42) (v := .ref (t + 3)) hx (hd 23) fl_8_19 ht rfl (by decide) rfl ?_
  have h9 := hL.1 _ _ _ ht 2 3 20 8 rfl
  refine r_alen (pc' := 43) (v := 8) hx (hd 24) h9 (by decide) rfl ?_
  refine r_copyi (pc' := 46) (s0 := 0) (d0 := 0) (k := 8) hx (hd 25) ml_8_38 ac_nat ac_st ac_ini h7 h8 ⟨by decide, by decide⟩ ⟨by decide, by decide⟩ ⟨by decide, by decide⟩ (by decide) (by decide) ⟨by decide, by decide⟩ rfl (fun M10 => ?_)
  refine r_aload_n (pc' := 47) hx (hd 26) rfl 0 rfl rfl ?_
  refine r_aload_n (pc' := 48) hx (hd 27) rfl 1 rfl rfl ?_
  refine r_get (pc' := 51) (v := .long (mJ M10 p1 3)) hx (hd 28) fl_8_44 hp1 rfl (by decide) rfl ?_
  refine r_putJ (pc' := 54) hx (hd 29) fp_8_44 ht rfl (by decide) rfl (fun M11 => ?_)
  refine r_aload_n (pc' := 55) hx (hd 30) rfl 0 rfl rfl ?_
  refine r_aload_n (pc' := 56) hx (hd 31) rfl 1 rfl rfl ?_
  refine r_get (pc' := 59) (v := .long (mJ M11 p1 4)) hx (hd 32) fl_8_48 hp1 rfl (by decide) rfl ?_
  refine r_putJ (pc' := 62) hx (hd 33) fp_8_48 ht rfl (by decide) rfl (fun M12 => ?_)
  refine r_aload_n (pc' := 63) hx (hd 34) rfl 0 rfl rfl ?_
  refine r_aload_n (pc' := 64) hx (hd 35) rfl 1 rfl rfl ?_
  refine r_get (pc' := 67) (v := .int (mI M12 p1 5)) hx (hd 36) fl_8_22 hp1 rfl (by decide) rfl ?_
  refine r_putI (pc' := 70) hx (hd 37) fp_8_22 ht rfl (by decide) rfl (fun M13 => ?_)
  refine r_aload_n (pc' := 71) hx (hd 38) rfl 0 rfl rfl ?_
  refine r_aload_n (pc' := 72) hx (hd 39) rfl 1 rfl rfl ?_
  refine r_get (pc' := 75) (v := .int (mI M13 p1 6)) hx (hd 40) fl_8_26 hp1 rfl (by decide) rfl ?_
  refine r_putI (pc' := 78) hx (hd 41) fp_8_26 ht rfl (by decide) rfl (fun M14 => ?_)
  refine r_aload_n (pc' := 79) hx (hd 42) rfl 0 rfl rfl ?_
  refine r_aload_n (pc' := 80) hx (hd 43) rfl 1 rfl rfl ?_
  refine r_get (pc' := 83) (v := .int (mI M14 p1 7)) hx (hd 44) fl_8_29 hp1 rfl (by decide) rfl ?_
  refine r_putI (pc' := 86) hx (hd 45) fp_8_29 ht rfl (by decide) rfl (fun M15 => ?_)
  refine r_aload_n (pc' := 87) hx (hd 46) rfl 0 rfl rfl ?_
  refine r_aload_n (pc' := 88) hx (hd 47) rfl 1 rfl rfl ?_
  refine r_get (pc' := 91) (v := .int (mI M15 p1 8)) hx (hd 48) fl_8_51 hp1 rfl (by decide) rfl ?_
  refine r_putI (pc' := 94) hx (hd 49) fp_8_51 ht rfl (by decide) rfl (fun M16 => ?_)
  refine r_aload_n (pc' := 95) hx (hd 50) rfl 0 rfl rfl ?_
  refine r_aload_n (pc' := 96) hx (hd 51) rfl 1 rfl rfl ?_
  refine r_get (pc' := 99) (v := .int (mI M16 p1 9)) hx (hd 52) fl_8_54 hp1 rfl (by decide) rfl ?_
  refine r_putI (pc' := 102) hx (hd 53) fp_8_54 ht rfl (by decide) rfl (fun M17 => ?_)
  refine r_aload_n (pc' := 103) hx (hd 54) rfl 0 rfl rfl ?_
  refine r_aload_n (pc' := 104) hx (hd 55) rfl 1 rfl rfl ?_
  refine r_get (pc' := 107) (v := .int (mI M17 p1 10)) hx (hd 56) fl_8_32 hp1 rfl (by decide) rfl ?_
  refine r_putI (pc' := 110) hx (hd 57) fp_8_32 ht rfl (by decide) rfl (fun M18 => ?_)
  refine r_aload_n (pc' := 111) hx (hd 58) rfl 0 rfl rfl ?_
  refine r_aload_n (pc' := 112) hx (hd 59) rfl 1 rfl rfl ?_
  refine r_get (pc' := 115) (v := .int (mI M18 p1 11)) hx (hd 60) fl_8_35 hp1 rfl (by decide) rfl ?_
  refine r_putI (pc' := 118) hx (hd 61) fp_8_35 ht rfl (by decide) rfl (fun M19 => ?_)
  refine r_aload_n (pc' := 119) hx (hd 62) rfl 0 rfl rfl ?_
  refine r_aload_n (pc' := 120) hx (hd 63) rfl 1 rfl rfl ?_
  refine r_get (pc' := 123) (v := .int (mI M19 p1 12)) hx (hd 64) fl_8_57 hp1 rfl (by decide) rfl ?_
  refine r_putI (pc' := 126) hx (hd 65) fp_8_57 ht rfl (by decide) rfl (fun M20 => ?_)
  exact r_vret hx (hd 66) rfl rfl hz
abbrev yX4_copyFrom : MethodName := ({ cls := "CribbageRoom$History", name := "copyFrom", desc := "(LCribbageRoom$History;)V" } : Jvm.MethodName)
def tbX4_copyFrom : List (Nat × Instr × Nat) := [(0, .aload_n 0, 1), (1, .aload_n 1, 1), (2, .getfield 26, 3), (5, .putfield 26, 3), (8, .aload_n 0, 1), (9, .aload_n 1, 1), (10, .getfield 22, 3), (13, .putfield 22, 3), (16, .iconst 0, 1), (17, .istore_n 2, 1), (18, .iload_n 2, 1), (19, .aload_n 0, 1), (20, .getfield 22, 3), (23, .if_icmp .ge 46, 3), (26, .aload_n 0, 1), (27, .getfield 26, 3), (30, .iload_n 2, 1), (31, .iadd, 1), (32, .bipush 16, 2), (34, .irem, 1), (35, .istore_n 3, 1), (36, .aload_n 0, 1), (37, .getfield 13, 3), (40, .iload_n 3, 1), (41, .aaload, 1), (42, .aload_n 1, 1), (43, .getfield 13, 3), (46, .iload_n 3, 1), (47, .aaload, 1), (48, .invokevirtual 29, 3), (51, .aload_n 0, 1), (52, .getfield 17, 3), (55, .iload_n 3, 1), (56, .aload_n 1, 1), (57, .getfield 17, 3), (60, .iload_n 3, 1), (61, .iaload, 1), (62, .iastore, 1), (63, .iinc 2 1, 3), (66, .goto (-48), 3), (69, .return_, 1)]
theorem dX4_copyFrom : ∀ q ∈ tbX4_copyFrom, decode prog_6_method_5_code q.1 = .ok q.2 := by decide +kernel
set_option maxRecDepth 20000 in
theorem cX4_copyFrom (l : Launch) (w : WX) (hL : Lay w) (t : Nat) (ht : Wat w t 4 0) (p1 : Nat) (hp1 : Wat w p1 4 0) (M : Mem) : Ct l w yX4_copyFrom prog_6_method_5_code 4 (Option.none : Option FieldType) 2 61 evU emU [.ref t, .ref p1] M (FX4_copyFrom t p1 M) := by
  refine ct_of (by decide) (Nat.le_of_ble_eq_true rfl) (fun x hl hx hb hz => ?_)
  subst hl
  have hd : ∀ i, DAt (xc x).code (tbX4_copyFrom[i]?) := fun i => by rw [hb]; exact dat_of dX4_copyFrom i
  show C x w (Qn x w evU emU) 4 0 [(0, .ref t), (1, .ref p1)] [] M (FX4_copyFrom t p1 M)
  unfold FX4_copyFrom
  refine r_aload_n (pc' := 1) hx (hd 0) rfl 0 rfl rfl ?_
  refine r_aload_n (pc' := 2) hx (hd 1) rfl 1 rfl rfl ?_
  refine r_get (pc' := 5) (v := .int (mI M p1 2)) hx (hd 2) fl_4_26 hp1 rfl (by decide) rfl ?_
  refine r_putI (pc' := 8) hx (hd 3) fp_4_26 ht rfl (by decide) rfl (fun M1 => ?_)
  refine r_aload_n (pc' := 9) hx (hd 4) rfl 0 rfl rfl ?_
  refine r_aload_n (pc' := 10) hx (hd 5) rfl 1 rfl rfl ?_
  refine r_get (pc' := 13) (v := .int (mI M1 p1 3)) hx (hd 6) fl_4_22 hp1 rfl (by decide) rfl ?_
  refine r_putI (pc' := 16) hx (hd 7) fp_4_22 ht rfl (by decide) rfl (fun M2 => ?_)
  refine r_iconst (pc' := 17) (v := 0) hx (hd 8) (by decide) rfl ?_
  refine r_istore_n (pc' := 18) (L' := [(2, .int 0), (0, .ref t), (1, .ref p1)]) hx (hd 9) rfl (by decide) rfl rfl ?_
  refine r_sub [1, 2, 0] rfl ?_
  refine r_wl2 (fun v3 M4 => [(0, .ref t), (1, .ref p1), (2, .int v3)]) (fun v3 M4 => []) (fun v3 M4 => M4) (fun v3 M4 rec5 ih6 => ?_) fuel 0 M2
  refine r_iload_n (pc' := 19) hx (hd 10) rfl 2 rfl rfl ?_
  refine r_aload_n (pc' := 20) hx (hd 11) rfl 0 rfl rfl ?_
  refine r_get (pc' := 23) (v := .int (mI M4 t 3)) hx (hd 12) fl_4_22 ht rfl (by decide) rfl ?_
  refine r_icmp_ge (tgt := 69) (pc' := 26) hx (hd 13) (by decide) (fun _ => ?_) rfl (fun _ => ?_)
  · skip
    exact r_vret hx (hd 40) rfl rfl hz
  · skip
    refine r_aload_n (pc' := 27) hx (hd 14) rfl 0 rfl rfl ?_
    refine r_get (pc' := 30) (v := .int (mI M4 t 2)) hx (hd 15) fl_4_26 ht rfl (by decide) rfl ?_
    refine r_iload_n (pc' := 31) hx (hd 16) rfl 2 rfl rfl ?_
    refine r_iadd (pc' := 32) hx (hd 17) rfl ?_
    refine r_bipush (pc' := 34) (v := 16) hx (hd 18) (by decide) rfl ?_
    refine r_irem (pc' := 35) hx (hd 19) (by decide) rfl ?_
    refine r_nmI (fun v7 => ?_)
    refine r_istore_n (pc' := 36) (L' := [(3, .int v7), (0, .ref t), (1, .ref p1), (2, .int v3)]) hx (hd 20) rfl (by decide) rfl rfl ?_
    refine r_aload_n (pc' := 37) hx (hd 21) rfl 1 rfl rfl ?_
    refine r_get (pc' := 40) (v := .ref (t + 1)) hx (hd 22) fl_4_13 ht rfl (by decide) rfl ?_
    have h8 := hL.1 _ _ _ ht 0 1 30 16 rfl
    refine r_iload_n (pc' := 41) hx (hd 23) rfl 0 rfl rfl ?_
    refine r_gd (fun h9 => ?_)
    refine r_aald (pc' := 42) (k := ix v7) hx (hd 24) h8 rfl rfl rfl h9 rfl rfl ?_
    have h10 := hL.2 _ _ _ h8 3 2 4 8 0 rfl (ix v7) (inb_lt h9)
    refine r_aload_n (pc' := 43) hx (hd 25) rfl 2 rfl rfl ?_
    refine r_get (pc' := 46) (v := .ref (p1 + 1)) hx (hd 26) fl_4_13 hp1 rfl (by decide) rfl ?_
    have h11 := hL.1 _ _ _ hp1 0 1 30 16 rfl
    refine r_iload_n (pc' := 47) hx (hd 27) rfl 0 rfl rfl ?_
    refine r_gd (fun h12 => ?_)
    refine r_aald (pc' := 48) (k := ix v7) hx (hd 28) h11 rfl rfl rfl h12 rfl rfl ?_
    have h13 := hL.2 _ _ _ h11 3 2 4 8 0 rfl (ix v7) (inb_lt h12)
    refine r_callVU (pc' := 51) (As := [.ref ((p1 + 1) + 2 + 4 * (ix v7))]) (rest := []) hx (hd 29) md_X8_copyFrom mi_X8_copyFrom ms_X8_copyFrom ml_4_29 (cX8_copyFrom (xl x) w hL ((t + 1) + 2 + 4 * (ix v7)) h10 ((p1 + 1) + 2 + 4 * (ix v7)) h13 M4) h10 rfl (by decide) ⟨Nat.le_of_ble_eq_true rfl, Nat.le_of_ble_eq_true rfl⟩ rfl rfl (Nat.le_of_ble_eq_true rfl) rfl (fun M14 => ?_)
    refine r_aload_n (pc' := 52) hx (hd 30) rfl 1 rfl rfl ?_
    refine r_get (pc' := 55) (v := .ref (t + 2)) hx (hd 31) fl_4_17 ht rfl (by decide) rfl ?_
    have h15 := hL.1 _ _ _ ht 1 2 20 16 rfl
    refine r_iload_n (pc' := 56) hx (hd 32) rfl 0 rfl rfl ?_
    refine r_aload_n (pc' := 57) hx (hd 33) rfl 2 rfl rfl ?_
    refine r_get (pc' := 60) (v := .ref (p1 + 2)) hx (hd 34) fl_4_17 hp1 rfl (by decide) rfl ?_
    have h16 := hL.1 _ _ _ hp1 1 2 20 16 rfl
    refine r_iload_n (pc' := 61) hx (hd 35) rfl 0 rfl rfl ?_
    refine r_gd (fun h17 => ?_)
    refine r_iald (pc' := 62) (k := ix v7) hx (hd 36) h16 h17 rfl rfl ?_
    refine r_gd (fun h19 => ?_)
    refine r_iast (pc' := 63) (k := ix v7) hx (hd 37) h15 h19 rfl rfl (fun M18 => ?_)
    refine r_iinc (pc' := 66) (v := 1) hx (hd 38) 3 rfl (by decide) (by decide) (fun v20 => [(2, .int v20), (3, .int v7), (0, .ref t), (1, .ref p1)]) (fun _ => rfl) rfl (fun v20 => ?_)
    refine r_goto (tgt := 18) hx (hd 39) (by decide) ?_
    refine r_sub [2, 3, 0] rfl ?_
    exact ih6 v20 M18
abbrev yX11_tellTable : MethodName := ({ cls := "CribbageRoom", name := "tellTable", desc := "()V" } : Jvm.MethodName)
def tbX11_tellTable : List (Nat × Instr × Nat) := [(0, .aload_n 0, 1), (1, .getfield 12, 3), (4, .getfield 113, 3), (7, .astore_n 1, 1), (8, .aload_n 0, 1), (9, .getfield 50, 3), (12, .iconst 0, 1), (13, .aload_n 1, 1), (14, .getfield 163, 3), (17, .invokevirtual 262, 3), (20, .aload_n 0, 1), (21, .getfield 50, 3), (24, .iconst 3, 1), (25, .aload_n 1, 1), (26, .getfield 175, 3), (29, .invokevirtual 262, 3), (32, .aload_n 0, 1), (33, .getfield 50, 3), (36, .iconst 4, 1), (37, .aload_n 1, 1), (38, .getfield 181, 3), (41, .invokevirtual 262, 3), (44, .iconst 0, 1), (45, .istore_n 2, 1), (46, .iload_n 2, 1), (47, .iconst 2, 1), (48, .if_icmp .ge 65, 3), (51, .aload_n 0, 1), (52, .getfield 50, 3), (55, .iconst 5, 1), (56, .iload_n 2, 1), (57, .iadd, 1), (58, .aload_n 1, 1), (59, .getfield 154, 3), (62, .iload_n 2, 1), (63, .iaload, 1), (64, .invokevirtual 262, 3), (67, .iconst 0, 1), (68, .istore_n 3, 1), (69, .iload_n 3, 1), (70, .bipush 6, 2), (72, .if_icmp .ge 35, 3), (75, .aload_n 0, 1), (76, .getfield 50, 3), (79, .bipush 7, 2), (81, .bipush 6, 2), (83, .iload_n 2, 1), (84, .imul, 1), (85, .iadd, 1), (86, .iload_n 3, 1), (87, .iadd, 1), (88, .aload_n 1, 1), (89, .getfield 144, 3), (92, .iload_n 2, 1), (93, .laload, 1), (94, .iload_n 3, 1), (95, .invokestatic 159, 3), (98, .invokevirtual 262, 3), (101, .iinc 3 1, 3), (104, .goto (-35), 3), (107, .iinc 2 1, 3), (110, .goto (-64), 3), (113, .return_, 1)]
theorem dX11_tellTable : ∀ q ∈ tbX11_tellTable, decode prog_1_method_53_code q.1 = .ok q.2 := by decide +kernel
set_option maxRecDepth 20000 in
theorem cX11_tellTable (l : Launch) (w : WX) (hL : Lay w) (t : Nat) (ht : Wat w t 11 0) (M : Mem) : Ct l w yX11_tellTable prog_1_method_53_code 4 (Option.none : Option FieldType) 3 67 evU emU [.ref t] M (FX11_tellTable t M) := by
  refine ct_of (by decide) (Nat.le_of_ble_eq_true rfl) (fun x hl hx hb hz => ?_)
  subst hl
  have hd : ∀ i, DAt (xc x).code (tbX11_tellTable[i]?) := fun i => by rw [hb]; exact dat_of dX11_tellTable i
  show C x w (Qn x w evU emU) 4 0 [(0, .ref t)] [] M (FX11_tellTable t M)
  unfold FX11_tellTable
  refine r_aload_n (pc' := 1) hx (hd 0) rfl 0 rfl rfl ?_
  refine r_get (pc' := 4) (v := .ref (t + 1)) hx (hd 1) fl_11_12 ht rfl (by decide) rfl ?_
  have h1 := hL.1 _ _ _ ht 0 1 6 0 rfl
  refine r_get (pc' := 7) (v := .ref ((t + 1) + 1)) hx (hd 2) fl_11_113 h1 rfl (by decide) rfl ?_
  have h2 := hL.1 _ _ _ h1 0 1 8 0 rfl
  refine r_astore_n (pc' := 8) (L' := [(1, .ref ((t + 1) + 1)), (0, .ref t)]) hx (hd 3) rfl (by decide) rfl rfl ?_
  refine r_aload_n (pc' := 9) hx (hd 4) rfl 1 rfl rfl ?_
  refine r_get (pc' := 12) (v := .ref (t + 176)) hx (hd 5) fl_11_50 ht rfl (by decide) rfl ?_
  have h3 := hL.1 _ _ _ ht 7 176 7 0 rfl
  refine r_iconst (pc' := 13) (v := 0) hx (hd 6) (by decide) rfl ?_
  refine r_aload_n (pc' := 14) hx (hd 7) rfl 0 rfl rfl ?_
  refine r_get (pc' := 17) (v := .int (mI M ((t + 1) + 1) 5)) hx (hd 8) fl_11_163 h2 rfl (by decide) rfl ?_
  refine r_callVU (pc' := 20) (As := [.int 0, .int (mI M ((t + 1) + 1) 5)]) (rest := []) hx (hd 9) md_X7_tell mi_X7_tell ms_X7_tell ml_11_262 (cX7_tell (xl x) w hL (t + 176) h3 0 (mI M ((t + 1) + 1) 5) M) h3 rfl (by decide) ⟨Nat.le_of_ble_eq_true rfl, Nat.le_of_ble_eq_true rfl⟩ rfl rfl (Nat.le_of_ble_eq_true rfl) rfl (fun M4 => ?_)
  refine r_aload_n (pc' := 21) hx (hd 10) rfl 1 rfl rfl ?_
  refine r_get (pc' := 24) (v := .ref (t + 176)) hx (hd 11) fl_11_50 ht rfl (by decide) rfl ?_
  have h5 := hL.1 _ _ _ ht 7 176 7 0 rfl
  refine r_iconst (pc' := 25) (v := 3) hx (hd 12) (by decide) rfl ?_
  refine r_aload_n (pc' := 26) hx (hd 13) rfl 0 rfl rfl ?_
  refine r_get (pc' := 29) (v := .int (mI M4 ((t + 1) + 1) 9)) hx (hd 14) fl_11_175 h2 rfl (by decide) rfl ?_
  refine r_callVU (pc' := 32) (As := [.int 3, .int (mI M4 ((t + 1) + 1) 9)]) (rest := []) hx (hd 15) md_X7_tell mi_X7_tell ms_X7_tell ml_11_262 (cX7_tell (xl x) w hL (t + 176) h5 3 (mI M4 ((t + 1) + 1) 9) M4) h5 rfl (by decide) ⟨Nat.le_of_ble_eq_true rfl, Nat.le_of_ble_eq_true rfl⟩ rfl rfl (Nat.le_of_ble_eq_true rfl) rfl (fun M6 => ?_)
  refine r_aload_n (pc' := 33) hx (hd 16) rfl 1 rfl rfl ?_
  refine r_get (pc' := 36) (v := .ref (t + 176)) hx (hd 17) fl_11_50 ht rfl (by decide) rfl ?_
  have h7 := hL.1 _ _ _ ht 7 176 7 0 rfl
  refine r_iconst (pc' := 37) (v := 4) hx (hd 18) (by decide) rfl ?_
  refine r_aload_n (pc' := 38) hx (hd 19) rfl 0 rfl rfl ?_
  refine r_get (pc' := 41) (v := .int (mI M6 ((t + 1) + 1) 10)) hx (hd 20) fl_11_181 h2 rfl (by decide) rfl ?_
  refine r_callVU (pc' := 44) (As := [.int 4, .int (mI M6 ((t + 1) + 1) 10)]) (rest := []) hx (hd 21) md_X7_tell mi_X7_tell ms_X7_tell ml_11_262 (cX7_tell (xl x) w hL (t + 176) h7 4 (mI M6 ((t + 1) + 1) 10) M6) h7 rfl (by decide) ⟨Nat.le_of_ble_eq_true rfl, Nat.le_of_ble_eq_true rfl⟩ rfl rfl (Nat.le_of_ble_eq_true rfl) rfl (fun M8 => ?_)
  refine r_iconst (pc' := 45) (v := 0) hx (hd 22) (by decide) rfl ?_
  refine r_istore_n (pc' := 46) (L' := [(2, .int 0), (1, .ref ((t + 1) + 1)), (0, .ref t)]) hx (hd 23) rfl (by decide) rfl rfl ?_
  refine r_sub [2, 1, 0] rfl ?_
  refine r_wl2 (fun v9 M10 => [(0, .ref t), (1, .ref ((t + 1) + 1)), (2, .int v9)]) (fun v9 M10 => []) (fun v9 M10 => M10) (fun v9 M10 rec11 ih12 => ?_) fuel 0 M8
  refine r_iload_n (pc' := 47) hx (hd 24) rfl 2 rfl rfl ?_
  refine r_iconst (pc' := 48) (v := 2) hx (hd 25) (by decide) rfl ?_
  refine r_icmp_ge (tgt := 113) (pc' := 51) hx (hd 26) (by decide) (fun _ => ?_) rfl (fun _ => ?_)
  · skip
    exact r_vret hx (hd 62) rfl rfl hz
  · skip
    refine r_aload_n (pc' := 52) hx (hd 27) rfl 0 rfl rfl ?_
    refine r_get (pc' := 55) (v := .ref (t + 176)) hx (hd 28) fl_11_50 ht rfl (by decide) rfl ?_
    have h13 := hL.1 _ _ _ ht 7 176 7 0 rfl
    refine r_iconst (pc' := 56) (v := 5) hx (hd 29) (by decide) rfl ?_
    refine r_iload_n (pc' := 57) hx (hd 30) rfl 2 rfl rfl ?_
    refine r_iadd (pc' := 58) hx (hd 31) rfl ?_
    refine r_aload_n (pc' := 59) hx (hd 32) rfl 1 rfl rfl ?_
    refine r_get (pc' := 62) (v := .ref (((t + 1) + 1) + 2)) hx (hd 33) fl_11_154 h2 rfl (by decide) rfl ?_
    have h14 := hL.1 _ _ _ h2 1 2 20 2 rfl
    refine r_iload_n (pc' := 63) hx (hd 34) rfl 2 rfl rfl ?_
    refine r_gd (fun h15 => ?_)
    refine r_iald (pc' := 64) (k := ix v9) hx (hd 35) h14 h15 rfl rfl ?_
    refine r_callVU (pc' := 67) (As := [.int (5 + v9), .int (mI M10 (((t + 1) + 1) + 2) (ix v9))]) (rest := []) hx (hd 36) md_X7_tell mi_X7_tell ms_X7_tell ml_11_262 (cX7_tell (xl x) w hL (t + 176) h13 (5 + v9) (mI M10 (((t + 1) + 1) + 2) (ix v9)) M10) h13 rfl (by decide) ⟨Nat.le_of_ble_eq_true rfl, Nat.le_of_ble_eq_true rfl⟩ rfl rfl (Nat.le_of_ble_eq_true rfl) rfl (fun M16 => ?_)
    refine r_iconst (pc' := 68) (v := 0) hx (hd 37) (by decide) rfl ?_
    refine r_istore_n (pc' := 69) (L' := [(3, .int 0), (0, .ref t), (1, .ref ((t + 1) + 1)), (2, .int v9)]) hx (hd 38) rfl (by decide) rfl rfl ?_
    refine r_sub [1, 2, 3, 0] rfl ?_
    refine r_wl2 (fun v17 M18 => [(0, .ref t), (1, .ref ((t + 1) + 1)), (2, .int v9), (3, .int v17)]) (fun v17 M18 => []) (fun v17 M18 => M18) (fun v17 M18 rec19 ih20 => ?_) fuel 0 M16
    refine r_iload_n (pc' := 70) hx (hd 39) rfl 3 rfl rfl ?_
    refine r_bipush (pc' := 72) (v := 6) hx (hd 40) (by decide) rfl ?_
    refine r_icmp_ge (tgt := 107) (pc' := 75) hx (hd 41) (by decide) (fun _ => ?_) rfl (fun _ => ?_)
    · skip
      refine r_iinc (pc' := 110) (v := 1) hx (hd 60) 2 rfl (by decide) (by decide) (fun v21 => [(2, .int v21), (0, .ref t), (1, .ref ((t + 1) + 1)), (3, .int v17)]) (fun _ => rfl) rfl (fun v21 => ?_)
      refine r_goto (tgt := 46) hx (hd 61) (by decide) ?_
      refine r_sub [1, 2, 0] rfl ?_
      exact ih12 v21 M18
    · skip
      refine r_aload_n (pc' := 76) hx (hd 42) rfl 0 rfl rfl ?_
      refine r_get (pc' := 79) (v := .ref (t + 176)) hx (hd 43) fl_11_50 ht rfl (by decide) rfl ?_
      have h22 := hL.1 _ _ _ ht 7 176 7 0 rfl
      refine r_bipush (pc' := 81) (v := 7) hx (hd 44) (by decide) rfl ?_
      refine r_bipush (pc' := 83) (v := 6) hx (hd 45) (by decide) rfl ?_
      refine r_iload_n (pc' := 84) hx (hd 46) rfl 2 rfl rfl ?_
      refine r_imul (pc' := 85) hx (hd 47) rfl ?_
      refine r_iadd (pc' := 86) hx (hd 48) rfl ?_
      refine r_iload_n (pc' := 87) hx (hd 49) rfl 3 rfl rfl ?_
      refine r_iadd (pc' := 88) hx (hd 50) rfl ?_
      refine r_aload_n (pc' := 89) hx (hd 51) rfl 1 rfl rfl ?_
      refine r_get (pc' := 92) (v := .ref (((t + 1) + 1) + 1)) hx (hd 52) fl_11_144 h2 rfl (by decide) rfl ?_
      have h23 := hL.1 _ _ _ h2 0 1 21 2 rfl
      refine r_iload_n (pc' := 93) hx (hd 53) rfl 2 rfl rfl ?_
      refine r_gd (fun h24 => ?_)
      refine r_lald (pc' := 94) (k := ix v9) hx (hd 54) h23 h24 rfl rfl ?_
      refine r_iload_n (pc' := 95) hx (hd 55) rfl 3 rfl rfl ?_
      refine r_callS (pc' := 98) (As := [.long (mJ M18 (((t + 1) + 1) + 1) (ix v9)), .int v17]) (rest := [.int ((7 + (6 * v9)) + v17), .ref (t + 176)]) hx (hd 56) md_X11_cardAt mst_X11_cardAt ml_11_159 (cX11_cardAt (xl x) w hL (mJ M18 (((t + 1) + 1) + 1) (ix v9)) v17 M18) ⟨Nat.le_of_ble_eq_true rfl, Nat.le_of_ble_eq_true rfl⟩ rfl rfl (Nat.le_of_ble_eq_true rfl) (fun r25 => .int r25 :: [.int ((7 + (6 * v9)) + v17), .ref (t + 176)]) (fun _ => M18) (fun _ => ⟨rfl, rfl⟩) rfl (fun r25 _ => ?_)
      refine r_callVU (pc' := 101) (As := [.int ((7 + (6 * v9)) + v17), .int r25]) (rest := []) hx (hd 57) md_X7_tell mi_X7_tell ms_X7_tell ml_11_262 (cX7_tell (xl x) w hL (t + 176) h22 ((7 + (6 * v9)) + v17) r25 M18) h22 rfl (by decide) ⟨Nat.le_of_ble_eq_true rfl, Nat.le_of_ble_eq_true rfl⟩ rfl rfl (Nat.le_of_ble_eq_true rfl) rfl (fun M26 => ?_)
      refine r_iinc (pc' := 104) (v := 1) hx (hd 58) 3 rfl (by decide) (by decide) (fun v27 => [(3, .int v27), (0, .ref t), (1, .ref ((t + 1) + 1)), (2, .int v9)]) (fun _ => rfl) rfl (fun v27 => ?_)
      refine r_goto (tgt := 69) hx (hd 59) (by decide) ?_
      refine r_sub [1, 2, 3, 0] rfl ?_
      exact ih20 v27 M26
abbrev yX4_push : MethodName := ({ cls := "CribbageRoom$History", name := "push", desc := "(LCribbageRoom$Table;I)V" } : Jvm.MethodName)
def tbX4_push : List (Nat × Instr × Nat) := [(0, .aload_n 0, 1), (1, .getfield 22, 3), (4, .bipush 16, 2), (6, .if_icmp .ne 26, 3), (9, .aload_n 0, 1), (10, .aload_n 0, 1), (11, .getfield 26, 3), (14, .iconst 1, 1), (15, .iadd, 1), (16, .bipush 16, 2), (18, .irem, 1), (19, .putfield 26, 3), (22, .aload_n 0, 1), (23, .dup, 1), (24, .getfield 22, 3), (27, .iconst 1, 1), (28, .isub, 1), (29, .putfield 22, 3), (32, .aload_n 0, 1), (33, .getfield 26, 3), (36, .aload_n 0, 1), (37, .getfield 22, 3), (40, .iadd, 1), (41, .bipush 16, 2), (43, .irem, 1), (44, .istore_n 3, 1), (45, .aload_n 0, 1), (46, .getfield 13, 3), (49, .iload_n 3, 1), (50, .aaload, 1), (51, .aload_n 1, 1), (52, .invokevirtual 29, 3), (55, .aload_n 0, 1), (56, .getfield 17, 3), (59, .iload_n 3, 1), (60, .iload_n 2, 1), (61, .iastore, 1), (62, .aload_n 0, 1), (63, .dup, 1), (64, .getfield 22, 3), (67, .iconst 1, 1), (68, .iadd, 1), (69, .putfield 22, 3), (72, .return_, 1)]
theorem dX4_push : ∀ q ∈ tbX4_push, decode prog_6_method_3_code q.1 = .ok q.2 := by decide +kernel
set_option maxRecDepth 20000 in
theorem cX4_push (l : Launch) (w : WX) (hL : Lay w) (t : Nat) (ht : Wat w t 4 0) (p1 : Nat) (hp1 : Wat w p1 8 0) (p2 : Int32) (M : Mem) : Ct l w yX4_push prog_6_method_3_code 4 (Option.none : Option FieldType) 2 61 evU emU [.ref t, .ref p1, .int p2] M (FX4_push t p1 p2 M) := by
  refine ct_of (by decide) (Nat.le_of_ble_eq_true rfl) (fun x hl hx hb hz => ?_)
  subst hl
  have hd : ∀ i, DAt (xc x).code (tbX4_push[i]?) := fun i => by rw [hb]; exact dat_of dX4_push i
  show C x w (Qn x w evU emU) 4 0 [(0, .ref t), (1, .ref p1), (2, .int p2)] [] M (FX4_push t p1 p2 M)
  unfold FX4_push
  refine r_aload_n (pc' := 1) hx (hd 0) rfl 0 rfl rfl ?_
  refine r_get (pc' := 4) (v := .int (mI M t 3)) hx (hd 1) fl_4_22 ht rfl (by decide) rfl ?_
  refine r_bipush (pc' := 6) (v := 16) hx (hd 2) (by decide) rfl ?_
  refine r_jn1 32 (fun M1 => [(0, .ref t), (1, .ref p1), (2, .int p2)]) (fun M1 => []) (fun M1 => M1) (fun M1 => ?_) (fun j2 hj3 => ?_)
  · skip
    refine r_aload_n (pc' := 33) hx (hd 18) rfl 0 rfl rfl ?_
    refine r_get (pc' := 36) (v := .int (mI M1 t 2)) hx (hd 19) fl_4_26 ht rfl (by decide) rfl ?_
    refine r_aload_n (pc' := 37) hx (hd 20) rfl 0 rfl rfl ?_
    refine r_get (pc' := 40) (v := .int (mI M1 t 3)) hx (hd 21) fl_4_22 ht rfl (by decide) rfl ?_
    refine r_iadd (pc' := 41) hx (hd 22) rfl ?_
    refine r_bipush (pc' := 43) (v := 16) hx (hd 23) (by decide) rfl ?_
    refine r_irem (pc' := 44) hx (hd 24) (by decide) rfl ?_
    refine r_nmI (fun v4 => ?_)
    refine r_istore_n (pc' := 45) (L' := [(3, .int v4), (0, .ref t), (1, .ref p1), (2, .int p2)]) hx (hd 25) rfl (by decide) rfl rfl ?_
    refine r_aload_n (pc' := 46) hx (hd 26) rfl 1 rfl rfl ?_
    refine r_get (pc' := 49) (v := .ref (t + 1)) hx (hd 27) fl_4_13 ht rfl (by decide) rfl ?_
    have h5 := hL.1 _ _ _ ht 0 1 30 16 rfl
    refine r_iload_n (pc' := 50) hx (hd 28) rfl 0 rfl rfl ?_
    refine r_gd (fun h6 => ?_)
    refine r_aald (pc' := 51) (k := ix v4) hx (hd 29) h5 rfl rfl rfl h6 rfl rfl ?_
    have h7 := hL.2 _ _ _ h5 3 2 4 8 0 rfl (ix v4) (inb_lt h6)
    refine r_aload_n (pc' := 52) hx (hd 30) rfl 2 rfl rfl ?_
    refine r_callVU (pc' := 55) (As := [.ref p1]) (rest := []) hx (hd 31) md_X8_copyFrom mi_X8_copyFrom ms_X8_copyFrom ml_4_29 (cX8_copyFrom (xl x) w hL ((t + 1) + 2 + 4 * (ix v4)) h7 p1 hp1 M1) h7 rfl (by decide) ⟨Nat.le_of_ble_eq_true rfl, Nat.le_of_ble_eq_true rfl⟩ rfl rfl (Nat.le_of_ble_eq_true rfl) rfl (fun M8 => ?_)
    refine r_aload_n (pc' := 56) hx (hd 32) rfl 1 rfl rfl ?_
    refine r_get (pc' := 59) (v := .ref (t + 2)) hx (hd 33) fl_4_17 ht rfl (by decide) rfl ?_
    have h9 := hL.1 _ _ _ ht 1 2 20 16 rfl
    refine r_iload_n (pc' := 60) hx (hd 34) rfl 0 rfl rfl ?_
    refine r_iload_n (pc' := 61) hx (hd 35) rfl 3 rfl rfl ?_
    refine r_gd (fun h11 => ?_)
    refine r_iast (pc' := 62) (k := ix v4) hx (hd 36) h9 h11 rfl rfl (fun M10 => ?_)
    refine r_aload_n (pc' := 63) hx (hd 37) rfl 1 rfl rfl ?_
    refine r_dup (pc' := 64) hx (hd 38) rfl rfl ?_
    refine r_get (pc' := 67) (v := .int (mI M10 t 3)) hx (hd 39) fl_4_22 ht rfl (by decide) rfl ?_
    refine r_iconst (pc' := 68) (v := 1) hx (hd 40) (by decide) rfl ?_
    refine r_iadd (pc' := 69) hx (hd 41) rfl ?_
    refine r_putI (pc' := 72) hx (hd 42) fp_4_22 ht rfl (by decide) rfl (fun M12 => ?_)
    exact r_vret hx (hd 43) rfl rfl hz
  refine r_icmp_ne (tgt := 32) (pc' := 9) hx (hd 3) (by decide) (fun _ => ?_) rfl (fun _ => ?_)
  · skip
    exact hj3 M
  · skip
    refine r_aload_n (pc' := 10) hx (hd 4) rfl 0 rfl rfl ?_
    refine r_aload_n (pc' := 11) hx (hd 5) rfl 0 rfl rfl ?_
    refine r_get (pc' := 14) (v := .int (mI M t 2)) hx (hd 6) fl_4_26 ht rfl (by decide) rfl ?_
    refine r_iconst (pc' := 15) (v := 1) hx (hd 7) (by decide) rfl ?_
    refine r_iadd (pc' := 16) hx (hd 8) rfl ?_
    refine r_bipush (pc' := 18) (v := 16) hx (hd 9) (by decide) rfl ?_
    refine r_irem (pc' := 19) hx (hd 10) (by decide) rfl ?_
    refine r_putI (pc' := 22) hx (hd 11) fp_4_26 ht rfl (by decide) rfl (fun M13 => ?_)
    refine r_aload_n (pc' := 23) hx (hd 12) rfl 0 rfl rfl ?_
    refine r_dup (pc' := 24) hx (hd 13) rfl rfl ?_
    refine r_get (pc' := 27) (v := .int (mI M13 t 3)) hx (hd 14) fl_4_22 ht rfl (by decide) rfl ?_
    refine r_iconst (pc' := 28) (v := 1) hx (hd 15) (by decide) rfl ?_
    refine r_isub (pc' := 29) hx (hd 16) rfl ?_
    refine r_putI (pc' := 32) hx (hd 17) fp_4_22 ht rfl (by decide) rfl (fun M14 => ?_)
    exact hj3 M14
abbrev yX8_clearPlay : MethodName := ({ cls := "CribbageRoom$Table", name := "clearPlay", desc := "()V" } : Jvm.MethodName)
def tbX8_clearPlay : List (Nat × Instr × Nat) := [(0, .aload_n 0, 1), (1, .lconst 0, 1), (2, .putfield 48, 3), (5, .aload_n 0, 1), (6, .iconst 0, 1), (7, .putfield 54, 3), (10, .aload_n 0, 1), (11, .iconst 0, 1), (12, .putfield 51, 3), (15, .aload_n 0, 1), (16, .iconst (-1), 1), (17, .putfield 35, 3), (20, .return_, 1)]
theorem dX8_clearPlay : ∀ q ∈ tbX8_clearPlay, decode prog_10_method_7_code q.1 = .ok q.2 := by decide +kernel
set_option maxRecDepth 20000 in
theorem cX8_clearPlay (l : Launch) (w : WX) (hL : Lay w) (t : Nat) (ht : Wat w t 8 0) (M : Mem) : Ct l w yX8_clearPlay prog_10_method_7_code 1 (Option.none : Option FieldType) 0 0 evU emU [.ref t] M (FX8_clearPlay t M) := by
  refine ct_of (by decide) (Nat.le_of_ble_eq_true rfl) (fun x hl hx hb hz => ?_)
  subst hl
  have hd : ∀ i, DAt (xc x).code (tbX8_clearPlay[i]?) := fun i => by rw [hb]; exact dat_of dX8_clearPlay i
  show C x w (Qn x w evU emU) 1 0 [(0, .ref t)] [] M (FX8_clearPlay t M)
  unfold FX8_clearPlay
  refine r_aload_n (pc' := 1) hx (hd 0) rfl 0 rfl rfl ?_
  refine r_lconst (pc' := 2) (v := 0) hx (hd 1) (by decide) rfl ?_
  refine r_putJ (pc' := 5) hx (hd 2) fp_8_48 ht rfl (by decide) rfl (fun M1 => ?_)
  refine r_aload_n (pc' := 6) hx (hd 3) rfl 0 rfl rfl ?_
  refine r_iconst (pc' := 7) (v := 0) hx (hd 4) (by decide) rfl ?_
  refine r_putI (pc' := 10) hx (hd 5) fp_8_54 ht rfl (by decide) rfl (fun M2 => ?_)
  refine r_aload_n (pc' := 11) hx (hd 6) rfl 0 rfl rfl ?_
  refine r_iconst (pc' := 12) (v := 0) hx (hd 7) (by decide) rfl ?_
  refine r_putI (pc' := 15) hx (hd 8) fp_8_51 ht rfl (by decide) rfl (fun M3 => ?_)
  refine r_aload_n (pc' := 16) hx (hd 9) rfl 0 rfl rfl ?_
  refine r_iconst (pc' := 17) (v := (-1)) hx (hd 10) (by decide) rfl ?_
  refine r_putI (pc' := 20) hx (hd 11) fp_8_35 ht rfl (by decide) rfl (fun M4 => ?_)
  exact r_vret hx (hd 12) rfl rfl hz
abbrev yX8_dealOut : MethodName := ({ cls := "CribbageRoom$Table", name := "dealOut", desc := "(I)I" } : Jvm.MethodName)
def tbX8_dealOut : List (Nat × Instr × Nat) := [(0, .aload_n 0, 1), (1, .iconst 1, 1), (2, .aload_n 0, 1), (3, .getfield 26, 3), (6, .isub, 1), (7, .putfield 26, 3), (10, .aload_n 0, 1), (11, .getfield 9, 3), (14, .iconst 0, 1), (15, .lconst 0, 1), (16, .lastore, 1), (17, .aload_n 0, 1), (18, .getfield 9, 3), (21, .iconst 1, 1), (22, .lconst 0, 1), (23, .lastore, 1), (24, .aload_n 0, 1), (25, .lconst 0, 1), (26, .putfield 44, 3), (29, .ldc2_w 74, 3), (32, .lstore_n 2, 1), (33, .iload_n 1, 1), (34, .istore 4, 2), (36, .iconst 0, 1), (37, .istore 5, 2), (39, .iload 5, 2), (41, .bipush 13, 2), (43, .if_icmp .ge 111, 3), (46, .iload 4, 2), (48, .sipush 1103, 3), (51, .imul, 1), (52, .sipush 12345, 3), (55, .iadd, 1), (56, .ldc 76, 2), (58, .irem, 1), (59, .istore 4, 2), (61, .lload_n 2, 1), (62, .iload 4, 2), (64, .bipush 52, 2), (66, .iload 5, 2), (68, .isub, 1), (69, .irem, 1), (70, .invokestatic 77, 3), (73, .istore 6, 2), (75, .lload_n 2, 1), (76, .iload 6, 2), (78, .invokestatic 81, 3), (81, .ldc2_w 85, 3), (84, .lxor, 1), (85, .land, 1), (86, .lstore_n 2, 1), (87, .iload 5, 2), (89, .iconst 2, 1), (90, .irem, 1), (91, .ifCond .ne 12, 3), (94, .iconst 1, 1), (95, .aload_n 0, 1), (96, .getfield 26, 3), (99, .isub, 1), (100, .goto 7, 3), (103, .aload_n 0, 1), (104, .getfield 26, 3), (107, .istore 7, 2), (109, .iload 5, 2), (111, .bipush 12, 2), (113, .if_icmp .ne 12, 3), (116, .aload_n 0, 1), (117, .iload 6, 2), (119, .putfield 29, 3), (122, .goto 26, 3), (125, .iload 7, 2), (127, .invokestatic 60, 3), (130, .ifCond .eq 18, 3), (133, .aload_n 0, 1), (134, .getfield 9, 3), (137, .iload 7, 2), (139, .dup2, 1), (140, .laload, 1), (141, .iload 6, 2), (143, .invokestatic 81, 3), (146, .lor, 1), (147, .lastore, 1), (148, .iinc 5 1, 3), (151, .goto (-112), 3), (154, .aload_n 0, 1), (155, .invokevirtual 87, 3), (158, .aload_n 0, 1), (159, .iconst (-1), 1), (160, .putfield 32, 3), (163, .aload_n 0, 1), (164, .iconst 1, 1), (165, .putfield 22, 3), (168, .aload_n 0, 1), (169, .dup, 1), (170, .getfield 57, 3), (173, .iconst 1, 1), (174, .iadd, 1), (175, .putfield 57, 3), (178, .iload 4, 2), (180, .ireturn, 1)]
theorem dX8_dealOut : ∀ q ∈ tbX8_dealOut, decode prog_10_method_6_code q.1 = .ok q.2 := by decide +kernel
set_option maxRecDepth 20000 in
theorem cX8_dealOut (l : Launch) (w : WX) (hL : Lay w) (t : Nat) (ht : Wat w t 8 0) (p1 : Int32) (M : Mem) : Ct l w yX8_dealOut prog_10_method_6_code 8 (Option.some FieldType.int) 3 67 evIM emM [.ref t, .int p1] M (FX8_dealOut t p1 M) := by
  refine ct_of (by decide) (Nat.le_of_ble_eq_true rfl) (fun x hl hx hb hz => ?_)
  subst hl
  have hd : ∀ i, DAt (xc x).code (tbX8_dealOut[i]?) := fun i => by rw [hb]; exact dat_of dX8_dealOut i
  show C x w (Qn x w evIM emM) 8 0 [(0, .ref t), (1, .int p1)] [] M (FX8_dealOut t p1 M)
  unfold FX8_dealOut
  refine r_aload_n (pc' := 1) hx (hd 0) rfl 0 rfl rfl ?_
  refine r_iconst (pc' := 2) (v := 1) hx (hd 1) (by decide) rfl ?_
  refine r_aload_n (pc' := 3) hx (hd 2) rfl 0 rfl rfl ?_
  refine r_get (pc' := 6) (v := .int (mI M t 6)) hx (hd 3) fl_8_26 ht rfl (by decide) rfl ?_
  refine r_isub (pc' := 7) hx (hd 4) rfl ?_
  refine r_putI (pc' := 10) hx (hd 5) fp_8_26 ht rfl (by decide) rfl (fun M1 => ?_)
  refine r_aload_n (pc' := 11) hx (hd 6) rfl 0 rfl rfl ?_
  refine r_get (pc' := 14) (v := .ref (t + 1)) hx (hd 7) fl_8_9 ht rfl (by decide) rfl ?_
  have h2 := hL.1 _ _ _ ht 0 1 21 2 rfl
  refine r_iconst (pc' := 15) (v := 0) hx (hd 8) (by decide) rfl ?_
  refine r_lconst (pc' := 16) (v := 0) hx (hd 9) (by decide) rfl ?_
  refine r_last (pc' := 17) (k := 0) hx (hd 10) h2 (by decide) (by decide) rfl (fun M3 => ?_)
  refine r_aload_n (pc' := 18) hx (hd 11) rfl 0 rfl rfl ?_
  refine r_get (pc' := 21) (v := .ref (t + 1)) hx (hd 12) fl_8_9 ht rfl (by decide) rfl ?_
  have h4 := hL.1 _ _ _ ht 0 1 21 2 rfl
  refine r_iconst (pc' := 22) (v := 1) hx (hd 13) (by decide) rfl ?_
  refine r_lconst (pc' := 23) (v := 0) hx (hd 14) (by decide) rfl ?_
  refine r_last (pc' := 24) (k := 1) hx (hd 15) h4 (by decide) (by decide) rfl (fun M5 => ?_)
  refine r_aload_n (pc' := 25) hx (hd 16) rfl 0 rfl rfl ?_
  refine r_lconst (pc' := 26) (v := 0) hx (hd 17) (by decide) rfl ?_
  refine r_putJ (pc' := 29) hx (hd 18) fp_8_44 ht rfl (by decide) rfl (fun M6 => ?_)
  refine r_ldc2 (pc' := 32) hx (hd 19) kc_8_74 rfl ?_
  refine r_lstore_n (pc' := 33) (L' := [(2, .long 4503599627370495), (0, .ref t), (1, .int p1)]) hx (hd 20) rfl (by decide) rfl rfl ?_
  refine r_iload_n (pc' := 34) hx (hd 21) rfl 2 rfl rfl ?_
  refine r_istore (pc' := 36) (L' := [(4, .int p1), (2, .long 4503599627370495), (0, .ref t), (1, .int p1)]) hx (hd 22) (by decide) rfl rfl ?_
  refine r_iconst (pc' := 37) (v := 0) hx (hd 23) (by decide) rfl ?_
  refine r_istore (pc' := 39) (L' := [(5, .int 0), (4, .int p1), (2, .long 4503599627370495), (0, .ref t), (1, .int p1)]) hx (hd 24) (by decide) rfl rfl ?_
  refine r_sub [3, 2, 1, 0] rfl ?_
  refine r_wl4 (fun v7 v8 v9 M10 => [(0, .ref t), (2, .long v7), (4, .int v8), (5, .int v9)]) (fun v7 v8 v9 M10 => []) (fun v7 v8 v9 M10 => M10) (fun v7 v8 v9 M10 rec11 ih12 => ?_) fuel 4503599627370495 p1 0 M6
  refine r_iload (pc' := 41) hx (hd 25) 3 rfl rfl ?_
  refine r_bipush (pc' := 43) (v := 13) hx (hd 26) (by decide) rfl ?_
  refine r_icmp_ge (tgt := 154) (pc' := 46) hx (hd 27) (by decide) (fun _ => ?_) rfl (fun _ => ?_)
  · skip
    refine r_aload_n (pc' := 155) hx (hd 84) rfl 0 rfl rfl ?_
    refine r_callVU (pc' := 158) (As := []) (rest := []) hx (hd 85) md_X8_clearPlay mi_X8_clearPlay ms_X8_clearPlay ml_8_87 (cX8_clearPlay (xl x) w hL t ht M10) ht rfl (by decide) ⟨Nat.le_of_ble_eq_true rfl, Nat.le_of_ble_eq_true rfl⟩ rfl rfl (Nat.le_of_ble_eq_true rfl) rfl (fun M13 => ?_)
    refine r_aload_n (pc' := 159) hx (hd 86) rfl 0 rfl rfl ?_
    refine r_iconst (pc' := 160) (v := (-1)) hx (hd 87) (by decide) rfl ?_
    refine r_putI (pc' := 163) hx (hd 88) fp_8_32 ht rfl (by decide) rfl (fun M14 => ?_)
    refine r_aload_n (pc' := 164) hx (hd 89) rfl 0 rfl rfl ?_
    refine r_iconst (pc' := 165) (v := 1) hx (hd 90) (by decide) rfl ?_
    refine r_putI (pc' := 168) hx (hd 91) fp_8_22 ht rfl (by decide) rfl (fun M15 => ?_)
    refine r_aload_n (pc' := 169) hx (hd 92) rfl 0 rfl rfl ?_
    refine r_dup (pc' := 170) hx (hd 93) rfl rfl ?_
    refine r_get (pc' := 173) (v := .int (mI M15 t 12)) hx (hd 94) fl_8_57 ht rfl (by decide) rfl ?_
    refine r_iconst (pc' := 174) (v := 1) hx (hd 95) (by decide) rfl ?_
    refine r_iadd (pc' := 175) hx (hd 96) rfl ?_
    refine r_putI (pc' := 178) hx (hd 97) fp_8_57 ht rfl (by decide) rfl (fun M16 => ?_)
    refine r_iload (pc' := 180) hx (hd 98) 2 rfl rfl ?_
    exact r_iret hx (hd 99) rfl rfl hz
  · skip
    refine r_iload (pc' := 48) hx (hd 28) 2 rfl rfl ?_
    refine r_sipush (pc' := 51) (v := 1103) hx (hd 29) (by decide) rfl ?_
    refine r_imul (pc' := 52) hx (hd 30) rfl ?_
    refine r_sipush (pc' := 55) (v := 12345) hx (hd 31) (by decide) rfl ?_
    refine r_iadd (pc' := 56) hx (hd 32) rfl ?_
    refine r_ldc (pc' := 58) hx (hd 33) kc_8_76 rfl ?_
    refine r_irem (pc' := 59) hx (hd 34) (by decide) rfl ?_
    refine r_nmI (fun v17 => ?_)
    refine r_istore (pc' := 61) (L' := [(4, .int v17), (0, .ref t), (2, .long v7), (5, .int v9)]) hx (hd 35) (by decide) rfl rfl ?_
    refine r_lload_n (pc' := 62) hx (hd 36) rfl 2 rfl rfl ?_
    refine r_iload (pc' := 64) hx (hd 37) 0 rfl rfl ?_
    refine r_bipush (pc' := 66) (v := 52) hx (hd 38) (by decide) rfl ?_
    refine r_iload (pc' := 68) hx (hd 39) 3 rfl rfl ?_
    refine r_isub (pc' := 69) hx (hd 40) rfl ?_
    refine r_gd (fun h18 => ?_)
    refine r_irem (pc' := 70) hx (hd 41) (gd_ne h18) rfl ?_
    refine r_callSN (pc' := 73) (As := [.long v7, .int (irm v17 (52 - v9))]) (rest := []) hx (hd 42) md_X11_cardAt mst_X11_cardAt ml_8_77 (cX11_cardAt (xl x) w hL v7 (irm v17 (52 - v9)) M10) ⟨Nat.le_of_ble_eq_true rfl, Nat.le_of_ble_eq_true rfl⟩ rfl rfl (Nat.le_of_ble_eq_true rfl) (fun r19 => .int r19 :: []) (fun _ => M10) (fun _ => ⟨rfl, rfl⟩) rfl (fun r19 _ => ?_)
    refine r_istore (pc' := 75) (L' := [(6, .int r19), (4, .int v17), (0, .ref t), (2, .long v7), (5, .int v9)]) hx (hd 43) (by decide) rfl rfl ?_
    refine r_lload_n (pc' := 76) hx (hd 44) rfl 3 rfl rfl ?_
    refine r_iload (pc' := 78) hx (hd 45) 0 rfl rfl ?_
    refine r_callSN (pc' := 81) (As := [.int r19]) (rest := [.long v7]) hx (hd 46) md_X11_bit mst_X11_bit ml_8_81 (cX11_bit (xl x) w hL r19 M10) ⟨Nat.le_of_ble_eq_true rfl, Nat.le_of_ble_eq_true rfl⟩ rfl rfl (Nat.le_of_ble_eq_true rfl) (fun r20 => .long r20 :: [.long v7]) (fun _ => M10) (fun _ => ⟨rfl, rfl⟩) rfl (fun r20 _ => ?_)
    refine r_ldc2 (pc' := 84) hx (hd 47) kc_8_85 rfl ?_
    refine r_lxor (pc' := 85) hx (hd 48) rfl ?_
    refine r_land (pc' := 86) hx (hd 49) rfl ?_
    refine r_nmJ (fun v21 => ?_)
    refine r_lstore_n (pc' := 87) (L' := [(2, .long v21), (6, .int r19), (4, .int v17), (0, .ref t), (5, .int v9)]) hx (hd 50) rfl (by decide) rfl rfl ?_
    refine r_iload (pc' := 89) hx (hd 51) 4 rfl rfl ?_
    refine r_iconst (pc' := 90) (v := 2) hx (hd 52) (by decide) rfl ?_
    refine r_irem (pc' := 91) hx (hd 53) (by decide) rfl ?_
    refine r_jn1 107 (fun v22 => [(0, .ref t), (2, .long v21), (4, .int v17), (5, .int v9), (6, .int r19)]) (fun v22 => [.int v22]) (fun v22 => M10) (fun v22 => ?_) (fun j23 hj24 => ?_)
    · skip
      refine r_istore (pc' := 109) (L' := [(7, .int v22), (0, .ref t), (2, .long v21), (4, .int v17), (5, .int v9), (6, .int r19)]) hx (hd 62) (by decide) rfl rfl ?_
      refine r_iload (pc' := 111) hx (hd 63) 4 rfl rfl ?_
      refine r_bipush (pc' := 113) (v := 12) hx (hd 64) (by decide) rfl ?_
      refine r_jn1 148 (fun M25 => [(0, .ref t), (2, .long v21), (4, .int v17), (5, .int v9)]) (fun M25 => []) (fun M25 => M25) (fun M25 => ?_) (fun j26 hj27 => ?_)
      · skip
        refine r_iinc (pc' := 151) (v := 1) hx (hd 82) 3 rfl (by decide) (by decide) (fun v28 => [(5, .int v28), (0, .ref t), (2, .long v21), (4, .int v17)]) (fun _ => rfl) rfl (fun v28 => ?_)
        refine r_goto (tgt := 39) hx (hd 83) (by decide) ?_
        refine r_sub [1, 2, 3, 0] rfl ?_
        exact ih12 v21 v17 v28 M25
      refine r_icmp_ne (tgt := 125) (pc' := 116) hx (hd 65) (by decide) (fun _ => ?_) rfl (fun _ => ?_)
      · skip
        refine r_iload (pc' := 127) hx (hd 70) 0 rfl rfl ?_
        refine r_callSN (pc' := 130) (As := [.int v22]) (rest := []) hx (hd 71) md_X11_isPlayer mst_X11_isPlayer ml_8_60 (cX11_isPlayer (xl x) w hL v22 M10) ⟨Nat.le_of_ble_eq_true rfl, Nat.le_of_ble_eq_true rfl⟩ rfl rfl (Nat.le_of_ble_eq_true rfl) (fun r29 => .int r29 :: []) (fun _ => M10) (fun _ => ⟨rfl, rfl⟩) rfl (fun r29 _ => ?_)
        refine r_if_eq (tgt := 148) (pc' := 133) hx (hd 72) (by decide) (fun _ => ?_) rfl (fun _ => ?_)
        · skip
          refine r_sub [1, 2, 3, 4] rfl ?_
          exact hj27 M10
        · skip
          refine r_aload_n (pc' := 134) hx (hd 73) rfl 1 rfl rfl ?_
          refine r_get (pc' := 137) (v := .ref (t + 1)) hx (hd 74) fl_8_9 ht rfl (by decide) rfl ?_
          have h30 := hL.1 _ _ _ ht 0 1 21 2 rfl
          refine r_iload (pc' := 139) hx (hd 75) 0 rfl rfl ?_
          refine r_dup2 (pc' := 140) hx (hd 76) rfl rfl rfl ?_
          refine r_gd (fun h31 => ?_)
          refine r_lald (pc' := 141) (k := ix v22) hx (hd 77) h30 h31 rfl rfl ?_
          refine r_iload (pc' := 143) hx (hd 78) 5 rfl rfl ?_
          refine r_callSN (pc' := 146) (As := [.int r19]) (rest := [.long (mJ M10 (t + 1) (ix v22)), .int v22, .ref (t + 1)]) hx (hd 79) md_X11_bit mst_X11_bit ml_8_81 (cX11_bit (xl x) w hL r19 M10) ⟨Nat.le_of_ble_eq_true rfl, Nat.le_of_ble_eq_true rfl⟩ rfl rfl (Nat.le_of_ble_eq_true rfl) (fun r32 => .long r32 :: [.long (mJ M10 (t + 1) (ix v22)), .int v22, .ref (t + 1)]) (fun _ => M10) (fun _ => ⟨rfl, rfl⟩) rfl (fun r32 _ => ?_)
          refine r_lor (pc' := 147) hx (hd 80) rfl ?_
          refine r_gd (fun h34 => ?_)
          refine r_last (pc' := 148) (k := ix v22) hx (hd 81) h30 h34 rfl rfl (fun M33 => ?_)
          refine r_sub [1, 2, 3, 4] rfl ?_
          exact hj27 M33
      · skip
        refine r_aload_n (pc' := 117) hx (hd 66) rfl 1 rfl rfl ?_
        refine r_iload (pc' := 119) hx (hd 67) 5 rfl rfl ?_
        refine r_putI (pc' := 122) hx (hd 68) fp_8_29 ht rfl (by decide) rfl (fun M35 => ?_)
        refine r_goto (tgt := 148) hx (hd 69) (by decide) ?_
        refine r_sub [1, 2, 3, 4] rfl ?_
        exact hj27 M35
    refine r_if_ne (tgt := 103) (pc' := 94) hx (hd 54) (by decide) (fun _ => ?_) rfl (fun _ => ?_)
    · skip
      refine r_aload_n (pc' := 104) hx (hd 60) rfl 3 rfl rfl ?_
      refine r_get (pc' := 107) (v := .int (mI M10 t 6)) hx (hd 61) fl_8_26 ht rfl (by decide) rfl ?_
      refine r_sub [3, 0, 2, 4, 1] rfl ?_
      exact hj24 (mI M10 t 6)
    · skip
      refine r_iconst (pc' := 95) (v := 1) hx (hd 55) (by decide) rfl ?_
      refine r_aload_n (pc' := 96) hx (hd 56) rfl 3 rfl rfl ?_
      refine r_get (pc' := 99) (v := .int (mI M10 t 6)) hx (hd 57) fl_8_26 ht rfl (by decide) rfl ?_
      refine r_isub (pc' := 100) hx (hd 58) rfl ?_
      refine r_goto (tgt := 107) hx (hd 59) (by decide) ?_
      refine r_sub [3, 0, 2, 4, 1] rfl ?_
      exact hj24 (1 - (mI M10 t 6))
abbrev yX11_makeDeal : MethodName := ({ cls := "CribbageRoom", name := "makeDeal", desc := "(I)I" } : Jvm.MethodName)
def tbX11_makeDeal : List (Nat × Instr × Nat) := [(0, .iload_n 1, 1), (1, .ifCond .lt 10, 3), (4, .iload_n 1, 1), (5, .ldc_w 366, 3), (8, .if_icmp .le 5, 3), (11, .iconst (-1), 1), (12, .ireturn, 1), (13, .aload_n 0, 1), (14, .getfield 12, 3), (17, .getfield 113, 3), (20, .astore_n 2, 1), (21, .aload_n 2, 1), (22, .getfield 163, 3), (25, .ifCond .eq 11, 3), (28, .aload_n 2, 1), (29, .getfield 163, 3), (32, .iconst 3, 1), (33, .if_icmp .ne 7, 3), (36, .iconst 1, 1), (37, .goto 4, 3), (40, .iconst 0, 1), (41, .istore_n 3, 1), (42, .iload_n 3, 1), (43, .ifCond .eq 13, 3), (46, .aload_n 2, 1), (47, .getfield 367, 3), (50, .sipush 999, 3), (53, .if_icmp .lt 6, 3), (56, .bipush (-3), 2), (58, .ireturn, 1), (59, .aload_n 0, 1), (60, .getfield 23, 3), (63, .aload_n 2, 1), (64, .iconst 0, 1), (65, .invokevirtual 387, 3), (68, .aload_n 2, 1), (69, .iload_n 1, 1), (70, .invokevirtual 370, 3), (73, .pop, 1), (74, .aload_n 2, 1), (75, .getfield 169, 3), (78, .ireturn, 1)]
theorem dX11_makeDeal : ∀ q ∈ tbX11_makeDeal, decode prog_1_method_46_code q.1 = .ok q.2 := by decide +kernel
set_option maxRecDepth 20000 in
theorem cX11_makeDeal (l : Launch) (w : WX) (hL : Lay w) (t : Nat) (ht : Wat w t 11 0) (p1 : Int32) (M : Mem) : Ct l w yX11_makeDeal prog_1_method_46_code 4 (Option.some FieldType.int) 4 94 evIM emM [.ref t, .int p1] M (FX11_makeDeal t p1 M) := by
  refine ct_of (by decide) (Nat.le_of_ble_eq_true rfl) (fun x hl hx hb hz => ?_)
  subst hl
  have hd : ∀ i, DAt (xc x).code (tbX11_makeDeal[i]?) := fun i => by rw [hb]; exact dat_of dX11_makeDeal i
  show C x w (Qn x w evIM emM) 4 0 [(0, .ref t), (1, .int p1)] [] M (FX11_makeDeal t p1 M)
  unfold FX11_makeDeal
  refine r_iload_n (pc' := 1) hx (hd 0) rfl 1 rfl rfl ?_
  refine r_jn0 11 ([]) ([]) (M) (?_) (fun j1 hj2 => ?_)
  · skip
    refine r_iconst (pc' := 12) (v := (-1)) hx (hd 5) (by decide) rfl ?_
    exact r_iret hx (hd 6) rfl rfl hz
  refine r_if_lt (tgt := 11) (pc' := 4) hx (hd 1) (by decide) (fun _ => ?_) rfl (fun _ => ?_)
  · skip
    refine r_sub [] rfl ?_
    exact hj2
  · skip
    refine r_iload_n (pc' := 5) hx (hd 2) rfl 1 rfl rfl ?_
    refine r_ldcw (pc' := 8) hx (hd 3) kc_11_366 rfl ?_
    refine r_icmp_le (tgt := 13) (pc' := 11) hx (hd 4) (by decide) (fun _ => ?_) rfl (fun _ => ?_)
    · skip
      refine r_aload_n (pc' := 14) hx (hd 7) rfl 0 rfl rfl ?_
      refine r_get (pc' := 17) (v := .ref (t + 1)) hx (hd 8) fl_11_12 ht rfl (by decide) rfl ?_
      have h3 := hL.1 _ _ _ ht 0 1 6 0 rfl
      refine r_get (pc' := 20) (v := .ref ((t + 1) + 1)) hx (hd 9) fl_11_113 h3 rfl (by decide) rfl ?_
      have h4 := hL.1 _ _ _ h3 0 1 8 0 rfl
      refine r_astore_n (pc' := 21) (L' := [(2, .ref ((t + 1) + 1)), (0, .ref t), (1, .int p1)]) hx (hd 10) rfl (by decide) rfl rfl ?_
      refine r_aload_n (pc' := 22) hx (hd 11) rfl 0 rfl rfl ?_
      refine r_get (pc' := 25) (v := .int (mI M ((t + 1) + 1) 5)) hx (hd 12) fl_11_163 h4 rfl (by decide) rfl ?_
      refine r_jn1 41 (fun v5 => [(0, .ref t), (1, .int p1), (2, .ref ((t + 1) + 1))]) (fun v5 => [.int v5]) (fun v5 => M) (fun v5 => ?_) (fun j6 hj7 => ?_)
      · skip
        refine r_istore_n (pc' := 42) (L' := [(3, .int v5), (0, .ref t), (1, .int p1), (2, .ref ((t + 1) + 1))]) hx (hd 21) rfl (by decide) rfl rfl ?_
        refine r_iload_n (pc' := 43) hx (hd 22) rfl 0 rfl rfl ?_
        refine r_jn0 56 ([]) ([]) (M) (?_) (fun j8 hj9 => ?_)
        · skip
          refine r_bipush (pc' := 58) (v := (-3)) hx (hd 28) (by decide) rfl ?_
          exact r_iret hx (hd 29) rfl rfl hz
        refine r_if_eq (tgt := 56) (pc' := 46) hx (hd 23) (by decide) (fun _ => ?_) rfl (fun _ => ?_)
        · skip
          refine r_sub [] rfl ?_
          exact hj9
        · skip
          refine r_aload_n (pc' := 47) hx (hd 24) rfl 3 rfl rfl ?_
          refine r_get (pc' := 50) (v := .int (mI M ((t + 1) + 1) 12)) hx (hd 25) fl_11_367 h4 rfl (by decide) rfl ?_
          refine r_sipush (pc' := 53) (v := 999) hx (hd 26) (by decide) rfl ?_
          refine r_icmp_lt (tgt := 59) (pc' := 56) hx (hd 27) (by decide) (fun _ => ?_) rfl (fun _ => ?_)
          · skip
            refine r_aload_n (pc' := 60) hx (hd 30) rfl 1 rfl rfl ?_
            refine r_get (pc' := 63) (v := .ref (t + 29)) hx (hd 31) fl_11_23 ht rfl (by decide) rfl ?_
            have h10 := hL.1 _ _ _ ht 2 29 4 0 rfl
            refine r_aload_n (pc' := 64) hx (hd 32) rfl 3 rfl rfl ?_
            refine r_iconst (pc' := 65) (v := 0) hx (hd 33) (by decide) rfl ?_
            refine r_callVU (pc' := 68) (As := [.ref ((t + 1) + 1), .int 0]) (rest := []) hx (hd 34) md_X4_push mi_X4_push ms_X4_push ml_11_387 (cX4_push (xl x) w hL (t + 29) h10 ((t + 1) + 1) h4 0 M) h10 rfl (by decide) ⟨Nat.le_of_ble_eq_true rfl, Nat.le_of_ble_eq_true rfl⟩ rfl rfl (Nat.le_of_ble_eq_true rfl) rfl (fun M11 => ?_)
            refine r_aload_n (pc' := 69) hx (hd 35) rfl 3 rfl rfl ?_
            refine r_iload_n (pc' := 70) hx (hd 36) rfl 2 rfl rfl ?_
            refine r_callVI (pc' := 73) (As := [.int p1]) (rest := []) hx (hd 37) md_X8_dealOut mi_X8_dealOut ms_X8_dealOut ml_11_370 (cX8_dealOut (xl x) w hL ((t + 1) + 1) h4 p1 M11) h4 rfl (by decide) ⟨Nat.le_of_ble_eq_true rfl, Nat.le_of_ble_eq_true rfl⟩ rfl rfl (Nat.le_of_ble_eq_true rfl) (fun r13 => .int r13 :: []) (fun _ => rfl) rfl (fun r13 M12 => ?_)
            refine r_pop (pc' := 74) hx (hd 38) rfl rfl ?_
            refine r_aload_n (pc' := 75) hx (hd 39) rfl 3 rfl rfl ?_
            refine r_get (pc' := 78) (v := .int (mI M12 ((t + 1) + 1) 7)) hx (hd 40) fl_11_169 h4 rfl (by decide) rfl ?_
            exact r_iret hx (hd 41) rfl rfl hz
          · skip
            refine r_sub [] rfl ?_
            exact hj9
      refine r_jn0 36 ([(0, .ref t), (1, .int p1), (2, .ref ((t + 1) + 1))]) ([]) (M) (?_) (fun j14 hj15 => ?_)
      · skip
        refine r_iconst (pc' := 37) (v := 1) hx (hd 18) (by decide) rfl ?_
        refine r_goto (tgt := 41) hx (hd 19) (by decide) ?_
        exact hj7 1
      refine r_if_eq (tgt := 36) (pc' := 28) hx (hd 13) (by decide) (fun _ => ?_) rfl (fun _ => ?_)
      · skip
        refine r_sub [1, 2, 0] rfl ?_
        exact hj15
      · skip
        refine r_aload_n (pc' := 29) hx (hd 14) rfl 0 rfl rfl ?_
        refine r_get (pc' := 32) (v := .int (mI M ((t + 1) + 1) 5)) hx (hd 15) fl_11_163 h4 rfl (by decide) rfl ?_
        refine r_iconst (pc' := 33) (v := 3) hx (hd 16) (by decide) rfl ?_
        refine r_icmp_ne (tgt := 40) (pc' := 36) hx (hd 17) (by decide) (fun _ => ?_) rfl (fun _ => ?_)
        · skip
          refine r_iconst (pc' := 41) (v := 0) hx (hd 20) (by decide) rfl ?_
          refine r_sub [1, 2, 0] rfl ?_
          exact hj7 0
        · skip
          refine r_sub [1, 2, 0] rfl ?_
          exact hj15
    · skip
      refine r_sub [] rfl ?_
      exact hj2
abbrev yX8_canLay : MethodName := ({ cls := "CribbageRoom$Table", name := "canLay", desc := "(II)Z" } : Jvm.MethodName)
def tbX8_canLay : List (Nat × Instr × Nat) := [(0, .aload_n 0, 1), (1, .getfield 22, 3), (4, .iconst 1, 1), (5, .if_icmp .ne 40, 3), (8, .iload_n 2, 1), (9, .invokestatic 60, 3), (12, .ifCond .eq 33, 3), (15, .aload_n 0, 1), (16, .getfield 9, 3), (19, .iload_n 2, 1), (20, .laload, 1), (21, .iload_n 1, 1), (22, .invokestatic 64, 3), (25, .ifCond .eq 20, 3), (28, .aload_n 0, 1), (29, .getfield 9, 3), (32, .iload_n 2, 1), (33, .laload, 1), (34, .invokestatic 90, 3), (37, .iconst 4, 1), (38, .if_icmp .le 7, 3), (41, .iconst 1, 1), (42, .goto 4, 3), (45, .iconst 0, 1), (46, .ireturn, 1)]
theorem dX8_canLay : ∀ q ∈ tbX8_canLay, decode prog_10_method_8_code q.1 = .ok q.2 := by decide +kernel
set_option maxRecDepth 20000 in
theorem cX8_canLay (l : Launch) (w : WX) (hL : Lay w) (t : Nat) (ht : Wat w t 8 0) (p1 : Int32) (p2 : Int32) (M : Mem) : Ct l w yX8_canLay prog_10_method_8_code 3 (Option.some FieldType.boolean) 2 42 evI (emC M) [.ref t, .int p1, .int p2] M (FX8_canLay t p1 p2 M) := by
  refine ct_of (by decide) (Nat.le_of_ble_eq_true rfl) (fun x hl hx hb hz => ?_)
  subst hl
  have hd : ∀ i, DAt (xc x).code (tbX8_canLay[i]?) := fun i => by rw [hb]; exact dat_of dX8_canLay i
  show C x w (Qn x w evI (emC M)) 3 0 [(0, .ref t), (1, .int p1), (2, .int p2)] [] M (FX8_canLay t p1 p2 M)
  unfold FX8_canLay
  refine r_aload_n (pc' := 1) hx (hd 0) rfl 0 rfl rfl ?_
  refine r_get (pc' := 4) (v := .int (mI M t 5)) hx (hd 1) fl_8_22 ht rfl (by decide) rfl ?_
  refine r_iconst (pc' := 5) (v := 1) hx (hd 2) (by decide) rfl ?_
  refine r_jn1 46 (fun v1 => []) (fun v1 => [.int v1]) (fun v1 => M) (fun v1 => ?_) (fun j2 hj3 => ?_)
  · skip
    refine r_gd (fun h4 => ?_)
    exact r_zret hx (hd 24) h4 rfl rfl hz
  refine r_jn0 45 ([]) ([]) (M) (?_) (fun j5 hj6 => ?_)
  · skip
    refine r_iconst (pc' := 46) (v := 0) hx (hd 23) (by decide) rfl ?_
    exact hj3 0
  refine r_icmp_ne (tgt := 45) (pc' := 8) hx (hd 3) (by decide) (fun _ => ?_) rfl (fun _ => ?_)
  · skip
    refine r_sub [] rfl ?_
    exact hj6
  · skip
    refine r_iload_n (pc' := 9) hx (hd 4) rfl 2 rfl rfl ?_
    refine r_callSN (pc' := 12) (As := [.int p2]) (rest := []) hx (hd 5) md_X11_isPlayer mst_X11_isPlayer ml_8_60 (cX11_isPlayer (xl x) w hL p2 M) ⟨Nat.le_of_ble_eq_true rfl, Nat.le_of_ble_eq_true rfl⟩ rfl rfl (Nat.le_of_ble_eq_true rfl) (fun r7 => .int r7 :: []) (fun _ => M) (fun _ => ⟨rfl, rfl⟩) rfl (fun r7 _ => ?_)
    refine r_if_eq (tgt := 45) (pc' := 15) hx (hd 6) (by decide) (fun _ => ?_) rfl (fun _ => ?_)
    · skip
      refine r_sub [] rfl ?_
      exact hj6
    · skip
      refine r_aload_n (pc' := 16) hx (hd 7) rfl 0 rfl rfl ?_
      refine r_get (pc' := 19) (v := .ref (t + 1)) hx (hd 8) fl_8_9 ht rfl (by decide) rfl ?_
      have h8 := hL.1 _ _ _ ht 0 1 21 2 rfl
      refine r_iload_n (pc' := 20) hx (hd 9) rfl 2 rfl rfl ?_
      refine r_gd (fun h9 => ?_)
      refine r_lald (pc' := 21) (k := ix p2) hx (hd 10) h8 h9 rfl rfl ?_
      refine r_iload_n (pc' := 22) hx (hd 11) rfl 1 rfl rfl ?_
      refine r_callSN (pc' := 25) (As := [.long (mJ M (t + 1) (ix p2)), .int p1]) (rest := []) hx (hd 12) md_X11_has mst_X11_has ml_8_64 (cX11_has (xl x) w hL (mJ M (t + 1) (ix p2)) p1 M) ⟨Nat.le_of_ble_eq_true rfl, Nat.le_of_ble_eq_true rfl⟩ rfl rfl (Nat.le_of_ble_eq_true rfl) (fun r10 => .int r10 :: []) (fun _ => M) (fun _ => ⟨rfl, rfl⟩) rfl (fun r10 _ => ?_)
      refine r_if_eq (tgt := 45) (pc' := 28) hx (hd 13) (by decide) (fun _ => ?_) rfl (fun _ => ?_)
      · skip
        refine r_sub [] rfl ?_
        exact hj6
      · skip
        refine r_aload_n (pc' := 29) hx (hd 14) rfl 0 rfl rfl ?_
        refine r_get (pc' := 32) (v := .ref (t + 1)) hx (hd 15) fl_8_9 ht rfl (by decide) rfl ?_
        have h11 := hL.1 _ _ _ ht 0 1 21 2 rfl
        refine r_iload_n (pc' := 33) hx (hd 16) rfl 2 rfl rfl ?_
        refine r_gd (fun h12 => ?_)
        refine r_lald (pc' := 34) (k := ix p2) hx (hd 17) h11 h12 rfl rfl ?_
        refine r_callS (pc' := 37) (As := [.long (mJ M (t + 1) (ix p2))]) (rest := []) hx (hd 18) md_J_Long_bitCount mst_J_Long_bitCount ml_8_90 (cJ_Long_bitCount (xl x) w hL (mJ M (t + 1) (ix p2)) M) ⟨Nat.le_of_ble_eq_true rfl, Nat.le_of_ble_eq_true rfl⟩ rfl rfl (Nat.le_of_ble_eq_true rfl) (fun r13 => .int r13 :: []) (fun _ => M) (fun _ => ⟨rfl, rfl⟩) rfl (fun r13 _ => ?_)
        refine r_iconst (pc' := 38) (v := 4) hx (hd 19) (by decide) rfl ?_
        refine r_icmp_le (tgt := 45) (pc' := 41) hx (hd 20) (by decide) (fun _ => ?_) rfl (fun _ => ?_)
        · skip
          refine r_sub [] rfl ?_
          exact hj6
        · skip
          refine r_iconst (pc' := 42) (v := 1) hx (hd 21) (by decide) rfl ?_
          refine r_goto (tgt := 46) hx (hd 22) (by decide) ?_
          refine r_sub [] rfl ?_
          exact hj3 1
abbrev yX8_addPegs : MethodName := ({ cls := "CribbageRoom$Table", name := "addPegs", desc := "(II)V" } : Jvm.MethodName)
def tbX8_addPegs : List (Nat × Instr × Nat) := [(0, .iload_n 1, 1), (1, .invokestatic 60, 3), (4, .ifCond .eq 23, 3), (7, .aload_n 0, 1), (8, .getfield 15, 3), (11, .iload_n 1, 1), (12, .sipush 9999, 3), (15, .aload_n 0, 1), (16, .getfield 15, 3), (19, .iload_n 1, 1), (20, .iaload, 1), (21, .iload_n 2, 1), (22, .iadd, 1), (23, .invokestatic 68, 3), (26, .iastore, 1), (27, .return_, 1)]
theorem dX8_addPegs : ∀ q ∈ tbX8_addPegs, decode prog_10_method_5_code q.1 = .ok q.2 := by decide +kernel
set_option maxRecDepth 20000 in
theorem cX8_addPegs (l : Launch) (w : WX) (hL : Lay w) (t : Nat) (ht : Wat w t 8 0) (p1 : Int32) (p2 : Int32) (M : Mem) : Ct l w yX8_addPegs prog_10_method_5_code 3 (Option.none : Option FieldType) 1 30 evU emU [.ref t, .int p1, .int p2] M (FX8_addPegs t p1 p2 M) := by
  refine ct_of (by decide) (Nat.le_of_ble_eq_true rfl) (fun x hl hx hb hz => ?_)
  subst hl
  have hd : ∀ i, DAt (xc x).code (tbX8_addPegs[i]?) := fun i => by rw [hb]; exact dat_of dX8_addPegs i
  show C x w (Qn x w evU emU) 3 0 [(0, .ref t), (1, .int p1), (2, .int p2)] [] M (FX8_addPegs t p1 p2 M)
  unfold FX8_addPegs
  refine r_iload_n (pc' := 1) hx (hd 0) rfl 1 rfl rfl ?_
  refine r_callSN (pc' := 4) (As := [.int p1]) (rest := []) hx (hd 1) md_X11_isPlayer mst_X11_isPlayer ml_8_60 (cX11_isPlayer (xl x) w hL p1 M) ⟨Nat.le_of_ble_eq_true rfl, Nat.le_of_ble_eq_true rfl⟩ rfl rfl (Nat.le_of_ble_eq_true rfl) (fun r1 => .int r1 :: []) (fun _ => M) (fun _ => ⟨rfl, rfl⟩) rfl (fun r1 _ => ?_)
  refine r_jn1 27 (fun M2 => []) (fun M2 => []) (fun M2 => M2) (fun M2 => ?_) (fun j3 hj4 => ?_)
  · skip
    exact r_vret hx (hd 15) rfl rfl hz
  refine r_if_eq (tgt := 27) (pc' := 7) hx (hd 2) (by decide) (fun _ => ?_) rfl (fun _ => ?_)
  · skip
    refine r_sub [] rfl ?_
    exact hj4 M
  · skip
    refine r_aload_n (pc' := 8) hx (hd 3) rfl 0 rfl rfl ?_
    refine r_get (pc' := 11) (v := .ref (t + 2)) hx (hd 4) fl_8_15 ht rfl (by decide) rfl ?_
    have h5 := hL.1 _ _ _ ht 1 2 20 2 rfl
    refine r_iload_n (pc' := 12) hx (hd 5) rfl 1 rfl rfl ?_
    refine r_sipush (pc' := 15) (v := 9999) hx (hd 6) (by decide) rfl ?_
    refine r_aload_n (pc' := 16) hx (hd 7) rfl 0 rfl rfl ?_
    refine r_get (pc' := 19) (v := .ref (t + 2)) hx (hd 8) fl_8_15 ht rfl (by decide) rfl ?_
    have h6 := hL.1 _ _ _ ht 1 2 20 2 rfl
    refine r_iload_n (pc' := 20) hx (hd 9) rfl 1 rfl rfl ?_
    refine r_gd (fun h7 => ?_)
    refine r_iald (pc' := 21) (k := ix p1) hx (hd 10) h6 h7 rfl rfl ?_
    refine r_iload_n (pc' := 22) hx (hd 11) rfl 2 rfl rfl ?_
    refine r_iadd (pc' := 23) hx (hd 12) rfl ?_
    refine r_mmin (pc' := 26) hx (hd 13) ml_8_68 ⟨Nat.le_of_ble_eq_true rfl, Nat.le_of_ble_eq_true rfl⟩ (Nat.le_of_ble_eq_true rfl) rfl ?_
    refine r_gd (fun h9 => ?_)
    refine r_iast (pc' := 27) (k := ix p1) hx (hd 14) h5 h9 rfl rfl (fun M8 => ?_)
    refine r_sub [] rfl ?_
    exact hj4 M8
abbrev yX8_handOf : MethodName := ({ cls := "CribbageRoom$Table", name := "handOf", desc := "(I)J" } : Jvm.MethodName)
def tbX8_handOf : List (Nat × Instr × Nat) := [(0, .iload_n 1, 1), (1, .invokestatic 60, 3), (4, .ifCond .eq 12, 3), (7, .aload_n 0, 1), (8, .getfield 9, 3), (11, .iload_n 1, 1), (12, .laload, 1), (13, .goto 4, 3), (16, .lconst 0, 1), (17, .lreturn, 1)]
theorem dX8_handOf : ∀ q ∈ tbX8_handOf, decode prog_10_method_3_code q.1 = .ok q.2 := by decide +kernel
set_option maxRecDepth 20000 in
theorem cX8_handOf (l : Launch) (w : WX) (hL : Lay w) (t : Nat) (ht : Wat w t 8 0) (p1 : Int32) (M : Mem) : Ct l w yX8_handOf prog_10_method_3_code 2 (Option.some FieldType.long) 1 20 evJ (emC M) [.ref t, .int p1] M (FX8_handOf t p1 M) := by
  refine ct_of (by decide) (Nat.le_of_ble_eq_true rfl) (fun x hl hx hb hz => ?_)
  subst hl
  have hd : ∀ i, DAt (xc x).code (tbX8_handOf[i]?) := fun i => by rw [hb]; exact dat_of dX8_handOf i
  show C x w (Qn x w evJ (emC M)) 2 0 [(0, .ref t), (1, .int p1)] [] M (FX8_handOf t p1 M)
  unfold FX8_handOf
  refine r_iload_n (pc' := 1) hx (hd 0) rfl 1 rfl rfl ?_
  refine r_callSN (pc' := 4) (As := [.int p1]) (rest := []) hx (hd 1) md_X11_isPlayer mst_X11_isPlayer ml_8_60 (cX11_isPlayer (xl x) w hL p1 M) ⟨Nat.le_of_ble_eq_true rfl, Nat.le_of_ble_eq_true rfl⟩ rfl rfl (Nat.le_of_ble_eq_true rfl) (fun r1 => .int r1 :: []) (fun _ => M) (fun _ => ⟨rfl, rfl⟩) rfl (fun r1 _ => ?_)
  refine r_jn1 17 (fun v2 => []) (fun v2 => [.long v2]) (fun v2 => M) (fun v2 => ?_) (fun j3 hj4 => ?_)
  · skip
    exact r_lret hx (hd 9) rfl rfl hz
  refine r_if_eq (tgt := 16) (pc' := 7) hx (hd 2) (by decide) (fun _ => ?_) rfl (fun _ => ?_)
  · skip
    refine r_lconst (pc' := 17) (v := 0) hx (hd 8) (by decide) rfl ?_
    refine r_sub [] rfl ?_
    exact hj4 0
  · skip
    refine r_aload_n (pc' := 8) hx (hd 3) rfl 0 rfl rfl ?_
    refine r_get (pc' := 11) (v := .ref (t + 1)) hx (hd 4) fl_8_9 ht rfl (by decide) rfl ?_
    have h5 := hL.1 _ _ _ ht 0 1 21 2 rfl
    refine r_iload_n (pc' := 12) hx (hd 5) rfl 1 rfl rfl ?_
    refine r_gd (fun h6 => ?_)
    refine r_lald (pc' := 13) (k := ix p1) hx (hd 6) h5 h6 rfl rfl ?_
    refine r_goto (tgt := 17) hx (hd 7) (by decide) ?_
    refine r_sub [] rfl ?_
    exact hj4 (mJ M (t + 1) (ix p1))
abbrev yX8_playable : MethodName := ({ cls := "CribbageRoom$Table", name := "playable", desc := "(ILCribbageRoom$Worth;)J" } : Jvm.MethodName)
def tbX8_playable : List (Nat × Instr × Nat) := [(0, .lconst 0, 1), (1, .lstore_n 3, 1), (2, .aload_n 0, 1), (3, .iload_n 1, 1), (4, .invokevirtual 104, 3), (7, .aload_n 0, 1), (8, .getfield 48, 3), (11, .ldc2_w 85, 3), (14, .lxor, 1), (15, .land, 1), (16, .aload_n 2, 1), (17, .getfield 107, 3), (20, .ldc2_w 85, 3), (23, .lxor, 1), (24, .land, 1), (25, .lstore 5, 2), (27, .iconst 0, 1), (28, .istore 7, 2), (30, .iload 7, 2), (32, .bipush 6, 2), (34, .if_icmp .ge 56, 3), (37, .lload 5, 2), (39, .lconst 0, 1), (40, .lcmp, 1), (41, .ifCond .eq 49, 3), (44, .lload 5, 2), (46, .invokestatic 112, 3), (49, .istore 8, 2), (51, .lload 5, 2), (53, .lload 5, 2), (55, .lconst 1, 1), (56, .lsub, 1), (57, .land, 1), (58, .lstore 5, 2), (60, .aload_n 0, 1), (61, .getfield 54, 3), (64, .aload_n 2, 1), (65, .iload 8, 2), (67, .invokevirtual 115, 3), (70, .iadd, 1), (71, .bipush 31, 2), (73, .if_icmp .gt 11, 3), (76, .lload_n 3, 1), (77, .iload 8, 2), (79, .invokestatic 81, 3), (82, .lor, 1), (83, .lstore_n 3, 1), (84, .iinc 7 1, 3), (87, .goto (-57), 3), (90, .lload_n 3, 1), (91, .lreturn, 1)]
theorem dX8_playable : ∀ q ∈ tbX8_playable, decode prog_10_method_10_code q.1 = .ok q.2 := by decide +kernel
set_option maxRecDepth 20000 in
theorem cX8_playable (l : Launch) (w : WX) (hL : Lay w) (t : Nat) (ht : Wat w t 8 0) (p1 : Int32) (p2 : Nat) (hp2 : Wat w p2 10 0) (M : Mem) : Ct l w yX8_playable prog_10_method_10_code 9 (Option.some FieldType.long) 2 42 evJ (emC M) [.ref t, .int p1, .ref p2] M (FX8_playable t p1 p2 M) := by
  refine ct_of (by decide) (Nat.le_of_ble_eq_true rfl) (fun x hl hx hb hz => ?_)
  subst hl
  have hd : ∀ i, DAt (xc x).code (tbX8_playable[i]?) := fun i => by rw [hb]; exact dat_of dX8_playable i
  show C x w (Qn x w evJ (emC M)) 9 0 [(0, .ref t), (1, .int p1), (2, .ref p2)] [] M (FX8_playable t p1 p2 M)
  unfold FX8_playable
  refine r_lconst (pc' := 1) (v := 0) hx (hd 0) (by decide) rfl ?_
  refine r_lstore_n (pc' := 2) (L' := [(3, .long 0), (0, .ref t), (1, .int p1), (2, .ref p2)]) hx (hd 1) rfl (by decide) rfl rfl ?_
  refine r_aload_n (pc' := 3) hx (hd 2) rfl 1 rfl rfl ?_
  refine r_iload_n (pc' := 4) hx (hd 3) rfl 2 rfl rfl ?_
  refine r_callV (pc' := 7) (As := [.int p1]) (rest := []) hx (hd 4) md_X8_handOf mi_X8_handOf ms_X8_handOf ml_8_104 (cX8_handOf (xl x) w hL t ht p1 M) ht rfl (by decide) ⟨Nat.le_of_ble_eq_true rfl, Nat.le_of_ble_eq_true rfl⟩ rfl rfl (Nat.le_of_ble_eq_true rfl) (fun r1 => .long r1 :: []) (fun _ => M) (fun _ => ⟨rfl, rfl⟩) rfl (fun r1 _ => ?_)
  refine r_aload_n (pc' := 8) hx (hd 5) rfl 1 rfl rfl ?_
  refine r_get (pc' := 11) (v := .long (mJ M t 4)) hx (hd 6) fl_8_48 ht rfl (by decide) rfl ?_
  refine r_ldc2 (pc' := 14) hx (hd 7) kc_8_85 rfl ?_
  refine r_lxor (pc' := 15) hx (hd 8) rfl ?_
  refine r_land (pc' := 16) hx (hd 9) rfl ?_
  refine r_aload_n (pc' := 17) hx (hd 10) rfl 3 rfl rfl ?_
  refine r_get (pc' := 20) (v := .long (mJ M p2 3)) hx (hd 11) fl_8_107 hp2 rfl (by decide) rfl ?_
  refine r_ldc2 (pc' := 23) hx (hd 12) kc_8_85 rfl ?_
  refine r_lxor (pc' := 24) hx (hd 13) rfl ?_
  refine r_land (pc' := 25) hx (hd 14) rfl ?_
  refine r_nmJ (fun v2 => ?_)
  refine r_lstore (pc' := 27) (L' := [(5, .long v2), (3, .long 0), (0, .ref t), (1, .int p1), (2, .ref p2)]) hx (hd 15) (by decide) rfl rfl ?_
  refine r_iconst (pc' := 28) (v := 0) hx (hd 16) (by decide) rfl ?_
  refine r_istore (pc' := 30) (L' := [(7, .int 0), (5, .long v2), (3, .long 0), (0, .ref t), (1, .int p1), (2, .ref p2)]) hx (hd 17) (by decide) rfl rfl ?_
  refine r_sub [3, 5, 2, 1, 0] rfl ?_
  refine r_wl3 (fun v3 v4 v5 => [(0, .ref t), (2, .ref p2), (3, .long v3), (5, .long v4), (7, .int v5)]) (fun v3 v4 v5 => []) (fun v3 v4 v5 => M) (fun v3 v4 v5 rec6 ih7 => ?_) fuel 0 v2 0
  refine r_iload (pc' := 32) hx (hd 18) 4 rfl rfl ?_
  refine r_bipush (pc' := 34) (v := 6) hx (hd 19) (by decide) rfl ?_
  refine r_jn0 90 ([(3, .long v3)]) ([]) (M) (?_) (fun j8 hj9 => ?_)
  · skip
    refine r_lload_n (pc' := 91) hx (hd 49) rfl 0 rfl rfl ?_
    exact r_lret hx (hd 50) rfl rfl hz
  refine r_icmp_ge (tgt := 90) (pc' := 37) hx (hd 20) (by decide) (fun _ => ?_) rfl (fun _ => ?_)
  · skip
    refine r_sub [2] rfl ?_
    exact hj9
  · skip
    refine r_lload (pc' := 39) hx (hd 21) 3 rfl rfl ?_
    refine r_lconst (pc' := 40) (v := 0) hx (hd 22) (by decide) rfl ?_
    refine r_lcmp_eq (tgt := 90) (pc' := 44) hx (hd 23) (hd 24) (by decide) (fun _ => ?_) rfl (fun _ => ?_)
    · skip
      refine r_sub [2] rfl ?_
      exact hj9
    · skip
      refine r_lload (pc' := 46) hx (hd 25) 3 rfl rfl ?_
      refine r_callSN (pc' := 49) (As := [.long v4]) (rest := []) hx (hd 26) md_X11_lowest mst_X11_lowest ml_8_112 (cX11_lowest (xl x) w hL v4 M) ⟨Nat.le_of_ble_eq_true rfl, Nat.le_of_ble_eq_true rfl⟩ rfl rfl (Nat.le_of_ble_eq_true rfl) (fun r10 => .int r10 :: []) (fun _ => M) (fun _ => ⟨rfl, rfl⟩) rfl (fun r10 _ => ?_)
      refine r_istore (pc' := 51) (L' := [(8, .int r10), (0, .ref t), (2, .ref p2), (3, .long v3), (5, .long v4), (7, .int v5)]) hx (hd 27) (by decide) rfl rfl ?_
      refine r_lload (pc' := 53) hx (hd 28) 4 rfl rfl ?_
      refine r_lload (pc' := 55) hx (hd 29) 4 rfl rfl ?_
      refine r_lconst (pc' := 56) (v := 1) hx (hd 30) (by decide) rfl ?_
      refine r_lsub (pc' := 57) hx (hd 31) rfl ?_
      refine r_land (pc' := 58) hx (hd 32) rfl ?_
      refine r_nmJ (fun v11 => ?_)
      refine r_lstore (pc' := 60) (L' := [(5, .long v11), (8, .int r10), (0, .ref t), (2, .ref p2), (3, .long v3), (7, .int v5)]) hx (hd 33) (by decide) rfl rfl ?_
      refine r_aload_n (pc' := 61) hx (hd 34) rfl 2 rfl rfl ?_
      refine r_get (pc' := 64) (v := .int (mI M t 9)) hx (hd 35) fl_8_54 ht rfl (by decide) rfl ?_
      refine r_aload_n (pc' := 65) hx (hd 36) rfl 3 rfl rfl ?_
      refine r_iload (pc' := 67) hx (hd 37) 1 rfl rfl ?_
      refine r_callV (pc' := 70) (As := [.int r10]) (rest := [.int (mI M t 9)]) hx (hd 38) md_X10_valueOf mi_X10_valueOf ms_X10_valueOf ml_8_115 (cX10_valueOf (xl x) w hL p2 hp2 r10 M) hp2 rfl (by decide) ⟨Nat.le_of_ble_eq_true rfl, Nat.le_of_ble_eq_true rfl⟩ rfl rfl (Nat.le_of_ble_eq_true rfl) (fun r12 => .int r12 :: [.int (mI M t 9)]) (fun _ => M) (fun _ => ⟨rfl, rfl⟩) rfl (fun r12 _ => ?_)
      refine r_iadd (pc' := 71) hx (hd 39) rfl ?_
      refine r_bipush (pc' := 73) (v := 31) hx (hd 40) (by decide) rfl ?_
      refine r_jn1 84 (fun v13 => [(0, .ref t), (2, .ref p2), (3, .long v13), (5, .long v11), (7, .int v5)]) (fun v13 => []) (fun v13 => M) (fun v13 => ?_) (fun j14 hj15 => ?_)
      · skip
        refine r_iinc (pc' := 87) (v := 1) hx (hd 47) 4 rfl (by decide) (by decide) (fun v16 => [(7, .int v16), (0, .ref t), (2, .ref p2), (3, .long v13), (5, .long v11)]) (fun _ => rfl) rfl (fun v16 => ?_)
        refine r_goto (tgt := 30) hx (hd 48) (by decide) ?_
        refine r_sub [1, 2, 3, 4, 0] rfl ?_
        exact ih7 v13 v11 v16
      refine r_icmp_gt (tgt := 84) (pc' := 76) hx (hd 41) (by decide) (fun _ => ?_) rfl (fun _ => ?_)
      · skip
        refine r_sub [2, 3, 4, 0, 5] rfl ?_
        exact hj15 v3
      · skip
        refine r_lload_n (pc' := 77) hx (hd 42) rfl 4 rfl rfl ?_
        refine r_iload (pc' := 79) hx (hd 43) 1 rfl rfl ?_
        refine r_callSN (pc' := 82) (As := [.int r10]) (rest := [.long v3]) hx (hd 44) md_X11_bit mst_X11_bit ml_8_81 (cX11_bit (xl x) w hL r10 M) ⟨Nat.le_of_ble_eq_true rfl, Nat.le_of_ble_eq_true rfl⟩ rfl rfl (Nat.le_of_ble_eq_true rfl) (fun r17 => .long r17 :: [.long v3]) (fun _ => M) (fun _ => ⟨rfl, rfl⟩) rfl (fun r17 _ => ?_)
        refine r_lor (pc' := 83) hx (hd 45) rfl ?_
        refine r_nmJ (fun v18 => ?_)
        refine r_lstore_n (pc' := 84) (L' := [(3, .long v18), (5, .long v11), (8, .int r10), (0, .ref t), (2, .ref p2), (7, .int v5)]) hx (hd 46) rfl (by decide) rfl rfl ?_
        refine r_sub [3, 4, 0, 1, 5] rfl ?_
        exact hj15 v18
abbrev yX8_firstWhoCan : MethodName := ({ cls := "CribbageRoom$Table", name := "firstWhoCan", desc := "(ILCribbageRoom$Worth;)I" } : Jvm.MethodName)
def tbX8_firstWhoCan : List (Nat × Instr × Nat) := [(0, .aload_n 0, 1), (1, .iload_n 1, 1), (2, .aload_n 2, 1), (3, .invokevirtual 119, 3), (6, .lconst 0, 1), (7, .lcmp, 1), (8, .ifCond .eq 5, 3), (11, .iload_n 1, 1), (12, .ireturn, 1), (13, .aload_n 0, 1), (14, .iconst 1, 1), (15, .iload_n 1, 1), (16, .isub, 1), (17, .aload_n 2, 1), (18, .invokevirtual 119, 3), (21, .lconst 0, 1), (22, .lcmp, 1), (23, .ifCond .eq 9, 3), (26, .iconst 1, 1), (27, .iload_n 1, 1), (28, .isub, 1), (29, .goto 4, 3), (32, .iconst (-1), 1), (33, .ireturn, 1)]
theorem dX8_firstWhoCan : ∀ q ∈ tbX8_firstWhoCan, decode prog_10_method_11_code q.1 = .ok q.2 := by decide +kernel
set_option maxRecDepth 20000 in
theorem cX8_firstWhoCan (l : Launch) (w : WX) (hL : Lay w) (t : Nat) (ht : Wat w t 8 0) (p1 : Int32) (p2 : Nat) (hp2 : Wat w p2 10 0) (M : Mem) : Ct l w yX8_firstWhoCan prog_10_method_11_code 3 (Option.some FieldType.int) 3 70 evI (emC M) [.ref t, .int p1, .ref p2] M (FX8_firstWhoCan t p1 p2 M) := by
  refine ct_of (by decide) (Nat.le_of_ble_eq_true rfl) (fun x hl hx hb hz => ?_)
  subst hl
  have hd : ∀ i, DAt (xc x).code (tbX8_firstWhoCan[i]?) := fun i => by rw [hb]; exact dat_of dX8_firstWhoCan i
  show C x w (Qn x w evI (emC M)) 3 0 [(0, .ref t), (1, .int p1), (2, .ref p2)] [] M (FX8_firstWhoCan t p1 p2 M)
  unfold FX8_firstWhoCan
  refine r_aload_n (pc' := 1) hx (hd 0) rfl 0 rfl rfl ?_
  refine r_iload_n (pc' := 2) hx (hd 1) rfl 1 rfl rfl ?_
  refine r_aload_n (pc' := 3) hx (hd 2) rfl 2 rfl rfl ?_
  refine r_callV (pc' := 6) (As := [.int p1, .ref p2]) (rest := []) hx (hd 3) md_X8_playable mi_X8_playable ms_X8_playable ml_8_119 (cX8_playable (xl x) w hL t ht p1 p2 hp2 M) ht rfl (by decide) ⟨Nat.le_of_ble_eq_true rfl, Nat.le_of_ble_eq_true rfl⟩ rfl rfl (Nat.le_of_ble_eq_true rfl) (fun r1 => .long r1 :: []) (fun _ => M) (fun _ => ⟨rfl, rfl⟩) rfl (fun r1 _ => ?_)
  refine r_lconst (pc' := 7) (v := 0) hx (hd 4) (by decide) rfl ?_
  refine r_lcmp_eq (tgt := 13) (pc' := 11) hx (hd 5) (hd 6) (by decide) (fun _ => ?_) rfl (fun _ => ?_)
  · skip
    refine r_aload_n (pc' := 14) hx (hd 9) rfl 0 rfl rfl ?_
    refine r_iconst (pc' := 15) (v := 1) hx (hd 10) (by decide) rfl ?_
    refine r_iload_n (pc' := 16) hx (hd 11) rfl 1 rfl rfl ?_
    refine r_isub (pc' := 17) hx (hd 12) rfl ?_
    refine r_aload_n (pc' := 18) hx (hd 13) rfl 2 rfl rfl ?_
    refine r_callV (pc' := 21) (As := [.int (1 - p1), .ref p2]) (rest := []) hx (hd 14) md_X8_playable mi_X8_playable ms_X8_playable ml_8_119 (cX8_playable (xl x) w hL t ht (1 - p1) p2 hp2 M) ht rfl (by decide) ⟨Nat.le_of_ble_eq_true rfl, Nat.le_of_ble_eq_true rfl⟩ rfl rfl (Nat.le_of_ble_eq_true rfl) (fun r2 => .long r2 :: []) (fun _ => M) (fun _ => ⟨rfl, rfl⟩) rfl (fun r2 _ => ?_)
    refine r_lconst (pc' := 22) (v := 0) hx (hd 15) (by decide) rfl ?_
    refine r_jn1 33 (fun v3 => []) (fun v3 => [.int v3]) (fun v3 => M) (fun v3 => ?_) (fun j4 hj5 => ?_)
    · skip
      exact r_iret hx (hd 23) rfl rfl hz
    refine r_lcmp_eq (tgt := 32) (pc' := 26) hx (hd 16) (hd 17) (by decide) (fun _ => ?_) rfl (fun _ => ?_)
    · skip
      refine r_iconst (pc' := 33) (v := (-1)) hx (hd 22) (by decide) rfl ?_
      refine r_sub [] rfl ?_
      exact hj5 (-1)
    · skip
      refine r_iconst (pc' := 27) (v := 1) hx (hd 18) (by decide) rfl ?_
      refine r_iload_n (pc' := 28) hx (hd 19) rfl 1 rfl rfl ?_
      refine r_isub (pc' := 29) hx (hd 20) rfl ?_
      refine r_goto (tgt := 33) hx (hd 21) (by decide) ?_
      refine r_sub [] rfl ?_
      exact hj5 (1 - p1)
  · skip
    refine r_iload_n (pc' := 12) hx (hd 7) rfl 1 rfl rfl ?_
    exact r_iret hx (hd 8) rfl rfl hz
abbrev yX8_layAway : MethodName := ({ cls := "CribbageRoom$Table", name := "layAway", desc := "(IILCribbageRoom$Worth;)V" } : Jvm.MethodName)
def tbX8_layAway : List (Nat × Instr × Nat) := [(0, .iload_n 2, 1), (1, .invokestatic 60, 3), (4, .ifCond .ne 4, 3), (7, .return_, 1), (8, .aload_n 0, 1), (9, .getfield 9, 3), (12, .iload_n 2, 1), (13, .dup2, 1), (14, .laload, 1), (15, .iload_n 1, 1), (16, .invokestatic 81, 3), (19, .ldc2_w 85, 3), (22, .lxor, 1), (23, .land, 1), (24, .lastore, 1), (25, .aload_n 0, 1), (26, .dup, 1), (27, .getfield 44, 3), (30, .iload_n 1, 1), (31, .invokestatic 81, 3), (34, .lor, 1), (35, .putfield 44, 3), (38, .aload_n 0, 1), (39, .getfield 9, 3), (42, .iconst 0, 1), (43, .laload, 1), (44, .invokestatic 90, 3), (47, .iconst 4, 1), (48, .if_icmp .ne 60, 3), (51, .aload_n 0, 1), (52, .getfield 9, 3), (55, .iconst 1, 1), (56, .laload, 1), (57, .invokestatic 90, 3), (60, .iconst 4, 1), (61, .if_icmp .ne 47, 3), (64, .aload_n 0, 1), (65, .invokevirtual 87, 3), (68, .aload_n 0, 1), (69, .iconst 2, 1), (70, .putfield 22, 3), (73, .aload_n 0, 1), (74, .getfield 29, 3), (77, .iconst 4, 1), (78, .idiv, 1), (79, .bipush 10, 2), (81, .if_icmp .ne 12, 3), (84, .aload_n 0, 1), (85, .aload_n 0, 1), (86, .getfield 26, 3), (89, .iconst 2, 1), (90, .invokevirtual 96, 3), (93, .aload_n 0, 1), (94, .aload_n 0, 1), (95, .iconst 1, 1), (96, .aload_n 0, 1), (97, .getfield 26, 3), (100, .isub, 1), (101, .aload_n 3, 1), (102, .invokevirtual 100, 3), (105, .putfield 32, 3), (108, .return_, 1)]
theorem dX8_layAway : ∀ q ∈ tbX8_layAway, decode prog_10_method_9_code q.1 = .ok q.2 := by decide +kernel
set_option maxRecDepth 20000 in
theorem cX8_layAway (l : Launch) (w : WX) (hL : Lay w) (t : Nat) (ht : Wat w t 8 0) (p1 : Int32) (p2 : Int32) (p3 : Nat) (hp3 : Wat w p3 10 0) (M : Mem) : Ct l w yX8_layAway prog_10_method_9_code 4 (Option.none : Option FieldType) 4 92 evU emU [.ref t, .int p1, .int p2, .ref p3] M (FX8_layAway t p1 p2 p3 M) := by
  refine ct_of (by decide) (Nat.le_of_ble_eq_true rfl) (fun x hl hx hb hz => ?_)
  subst hl
  have hd : ∀ i, DAt (xc x).code (tbX8_layAway[i]?) := fun i => by rw [hb]; exact dat_of dX8_layAway i
  show C x w (Qn x w evU emU) 4 0 [(0, .ref t), (1, .int p1), (2, .int p2), (3, .ref p3)] [] M (FX8_layAway t p1 p2 p3 M)
  unfold FX8_layAway
  refine r_iload_n (pc' := 1) hx (hd 0) rfl 2 rfl rfl ?_
  refine r_callSN (pc' := 4) (As := [.int p2]) (rest := []) hx (hd 1) md_X11_isPlayer mst_X11_isPlayer ml_8_60 (cX11_isPlayer (xl x) w hL p2 M) ⟨Nat.le_of_ble_eq_true rfl, Nat.le_of_ble_eq_true rfl⟩ rfl rfl (Nat.le_of_ble_eq_true rfl) (fun r1 => .int r1 :: []) (fun _ => M) (fun _ => ⟨rfl, rfl⟩) rfl (fun r1 _ => ?_)
  refine r_if_ne (tgt := 8) (pc' := 7) hx (hd 2) (by decide) (fun _ => ?_) rfl (fun _ => ?_)
  · skip
    refine r_aload_n (pc' := 9) hx (hd 4) rfl 0 rfl rfl ?_
    refine r_get (pc' := 12) (v := .ref (t + 1)) hx (hd 5) fl_8_9 ht rfl (by decide) rfl ?_
    have h2 := hL.1 _ _ _ ht 0 1 21 2 rfl
    refine r_iload_n (pc' := 13) hx (hd 6) rfl 2 rfl rfl ?_
    refine r_dup2 (pc' := 14) hx (hd 7) rfl rfl rfl ?_
    refine r_gd (fun h3 => ?_)
    refine r_lald (pc' := 15) (k := ix p2) hx (hd 8) h2 h3 rfl rfl ?_
    refine r_iload_n (pc' := 16) hx (hd 9) rfl 1 rfl rfl ?_
    refine r_callSN (pc' := 19) (As := [.int p1]) (rest := [.long (mJ M (t + 1) (ix p2)), .int p2, .ref (t + 1)]) hx (hd 10) md_X11_bit mst_X11_bit ml_8_81 (cX11_bit (xl x) w hL p1 M) ⟨Nat.le_of_ble_eq_true rfl, Nat.le_of_ble_eq_true rfl⟩ rfl rfl (Nat.le_of_ble_eq_true rfl) (fun r4 => .long r4 :: [.long (mJ M (t + 1) (ix p2)), .int p2, .ref (t + 1)]) (fun _ => M) (fun _ => ⟨rfl, rfl⟩) rfl (fun r4 _ => ?_)
    refine r_ldc2 (pc' := 22) hx (hd 11) kc_8_85 rfl ?_
    refine r_lxor (pc' := 23) hx (hd 12) rfl ?_
    refine r_land (pc' := 24) hx (hd 13) rfl ?_
    refine r_gd (fun h6 => ?_)
    refine r_last (pc' := 25) (k := ix p2) hx (hd 14) h2 h6 rfl rfl (fun M5 => ?_)
    refine r_aload_n (pc' := 26) hx (hd 15) rfl 0 rfl rfl ?_
    refine r_dup (pc' := 27) hx (hd 16) rfl rfl ?_
    refine r_get (pc' := 30) (v := .long (mJ M5 t 3)) hx (hd 17) fl_8_44 ht rfl (by decide) rfl ?_
    refine r_iload_n (pc' := 31) hx (hd 18) rfl 1 rfl rfl ?_
    refine r_callSN (pc' := 34) (As := [.int p1]) (rest := [.long (mJ M5 t 3), .ref t]) hx (hd 19) md_X11_bit mst_X11_bit ml_8_81 (cX11_bit (xl x) w hL p1 M5) ⟨Nat.le_of_ble_eq_true rfl, Nat.le_of_ble_eq_true rfl⟩ rfl rfl (Nat.le_of_ble_eq_true rfl) (fun r7 => .long r7 :: [.long (mJ M5 t 3), .ref t]) (fun _ => M5) (fun _ => ⟨rfl, rfl⟩) rfl (fun r7 _ => ?_)
    refine r_lor (pc' := 35) hx (hd 20) rfl ?_
    refine r_putJ (pc' := 38) hx (hd 21) fp_8_44 ht rfl (by decide) rfl (fun M8 => ?_)
    refine r_aload_n (pc' := 39) hx (hd 22) rfl 0 rfl rfl ?_
    refine r_get (pc' := 42) (v := .ref (t + 1)) hx (hd 23) fl_8_9 ht rfl (by decide) rfl ?_
    have h9 := hL.1 _ _ _ ht 0 1 21 2 rfl
    refine r_iconst (pc' := 43) (v := 0) hx (hd 24) (by decide) rfl ?_
    refine r_lald (pc' := 44) (k := 0) hx (hd 25) h9 (by decide) (by decide) rfl ?_
    refine r_callS (pc' := 47) (As := [.long (mJ M8 (t + 1) 0)]) (rest := []) hx (hd 26) md_J_Long_bitCount mst_J_Long_bitCount ml_8_90 (cJ_Long_bitCount (xl x) w hL (mJ M8 (t + 1) 0) M8) ⟨Nat.le_of_ble_eq_true rfl, Nat.le_of_ble_eq_true rfl⟩ rfl rfl (Nat.le_of_ble_eq_true rfl) (fun r10 => .int r10 :: []) (fun _ => M8) (fun _ => ⟨rfl, rfl⟩) rfl (fun r10 _ => ?_)
    refine r_iconst (pc' := 48) (v := 4) hx (hd 27) (by decide) rfl ?_
    refine r_jn1 108 (fun M11 => []) (fun M11 => []) (fun M11 => M11) (fun M11 => ?_) (fun j12 hj13 => ?_)
    · skip
      exact r_vret hx (hd 61) rfl rfl hz
    refine r_icmp_ne (tgt := 108) (pc' := 51) hx (hd 28) (by decide) (fun _ => ?_) rfl (fun _ => ?_)
    · skip
      refine r_sub [] rfl ?_
      exact hj13 M8
    · skip
      refine r_aload_n (pc' := 52) hx (hd 29) rfl 0 rfl rfl ?_
      refine r_get (pc' := 55) (v := .ref (t + 1)) hx (hd 30) fl_8_9 ht rfl (by decide) rfl ?_
      have h14 := hL.1 _ _ _ ht 0 1 21 2 rfl
      refine r_iconst (pc' := 56) (v := 1) hx (hd 31) (by decide) rfl ?_
      refine r_lald (pc' := 57) (k := 1) hx (hd 32) h14 (by decide) (by decide) rfl ?_
      refine r_callS (pc' := 60) (As := [.long (mJ M8 (t + 1) 1)]) (rest := []) hx (hd 33) md_J_Long_bitCount mst_J_Long_bitCount ml_8_90 (cJ_Long_bitCount (xl x) w hL (mJ M8 (t + 1) 1) M8) ⟨Nat.le_of_ble_eq_true rfl, Nat.le_of_ble_eq_true rfl⟩ rfl rfl (Nat.le_of_ble_eq_true rfl) (fun r15 => .int r15 :: []) (fun _ => M8) (fun _ => ⟨rfl, rfl⟩) rfl (fun r15 _ => ?_)
      refine r_iconst (pc' := 61) (v := 4) hx (hd 34) (by decide) rfl ?_
      refine r_icmp_ne (tgt := 108) (pc' := 64) hx (hd 35) (by decide) (fun _ => ?_) rfl (fun _ => ?_)
      · skip
        refine r_sub [] rfl ?_
        exact hj13 M8
      · skip
        refine r_aload_n (pc' := 65) hx (hd 36) rfl 0 rfl rfl ?_
        refine r_callVU (pc' := 68) (As := []) (rest := []) hx (hd 37) md_X8_clearPlay mi_X8_clearPlay ms_X8_clearPlay ml_8_87 (cX8_clearPlay (xl x) w hL t ht M8) ht rfl (by decide) ⟨Nat.le_of_ble_eq_true rfl, Nat.le_of_ble_eq_true rfl⟩ rfl rfl (Nat.le_of_ble_eq_true rfl) rfl (fun M16 => ?_)
        refine r_aload_n (pc' := 69) hx (hd 38) rfl 0 rfl rfl ?_
        refine r_iconst (pc' := 70) (v := 2) hx (hd 39) (by decide) rfl ?_
        refine r_putI (pc' := 73) hx (hd 40) fp_8_22 ht rfl (by decide) rfl (fun M17 => ?_)
        refine r_aload_n (pc' := 74) hx (hd 41) rfl 0 rfl rfl ?_
        refine r_get (pc' := 77) (v := .int (mI M17 t 7)) hx (hd 42) fl_8_29 ht rfl (by decide) rfl ?_
        refine r_iconst (pc' := 78) (v := 4) hx (hd 43) (by decide) rfl ?_
        refine r_idiv (pc' := 79) hx (hd 44) (by decide) rfl ?_
        refine r_bipush (pc' := 81) (v := 10) hx (hd 45) (by decide) rfl ?_
        refine r_jn1 93 (fun M18 => [(0, .ref t), (3, .ref p3)]) (fun M18 => []) (fun M18 => M18) (fun M18 => ?_) (fun j19 hj20 => ?_)
        · skip
          refine r_aload_n (pc' := 94) hx (hd 52) rfl 0 rfl rfl ?_
          refine r_aload_n (pc' := 95) hx (hd 53) rfl 0 rfl rfl ?_
          refine r_iconst (pc' := 96) (v := 1) hx (hd 54) (by decide) rfl ?_
          refine r_aload_n (pc' := 97) hx (hd 55) rfl 0 rfl rfl ?_
          refine r_get (pc' := 100) (v := .int (mI M18 t 6)) hx (hd 56) fl_8_26 ht rfl (by decide) rfl ?_
          refine r_isub (pc' := 101) hx (hd 57) rfl ?_
          refine r_aload_n (pc' := 102) hx (hd 58) rfl 1 rfl rfl ?_
          refine r_callV (pc' := 105) (As := [.int (1 - (mI M18 t 6)), .ref p3]) (rest := [.ref t]) hx (hd 59) md_X8_firstWhoCan mi_X8_firstWhoCan ms_X8_firstWhoCan ml_8_100 (cX8_firstWhoCan (xl x) w hL t ht (1 - (mI M18 t 6)) p3 hp3 M18) ht rfl (by decide) ⟨Nat.le_of_ble_eq_true rfl, Nat.le_of_ble_eq_true rfl⟩ rfl rfl (Nat.le_of_ble_eq_true rfl) (fun r21 => .int r21 :: [.ref t]) (fun _ => M18) (fun _ => ⟨rfl, rfl⟩) rfl (fun r21 _ => ?_)
          refine r_putI (pc' := 108) hx (hd 60) fp_8_32 ht rfl (by decide) rfl (fun M22 => ?_)
          refine r_sub [] rfl ?_
          exact hj13 M22
        refine r_icmp_ne (tgt := 93) (pc' := 84) hx (hd 46) (by decide) (fun _ => ?_) rfl (fun _ => ?_)
        · skip
          refine r_sub [0, 3] rfl ?_
          exact hj20 M17
        · skip
          refine r_aload_n (pc' := 85) hx (hd 47) rfl 0 rfl rfl ?_
          refine r_aload_n (pc' := 86) hx (hd 48) rfl 0 rfl rfl ?_
          refine r_get (pc' := 89) (v := .int (mI M17 t 6)) hx (hd 49) fl_8_26 ht rfl (by decide) rfl ?_
          refine r_iconst (pc' := 90) (v := 2) hx (hd 50) (by decide) rfl ?_
          refine r_callVU (pc' := 93) (As := [.int (mI M17 t 6), .int 2]) (rest := []) hx (hd 51) md_X8_addPegs mi_X8_addPegs ms_X8_addPegs ml_8_96 (cX8_addPegs (xl x) w hL t ht (mI M17 t 6) 2 M17) ht rfl (by decide) ⟨Nat.le_of_ble_eq_true rfl, Nat.le_of_ble_eq_true rfl⟩ rfl rfl (Nat.le_of_ble_eq_true rfl) rfl (fun M23 => ?_)
          refine r_sub [0, 3] rfl ?_
          exact hj20 M23
  · skip
    exact r_vret hx (hd 3) rfl rfl hz
abbrev yX11_makeLay : MethodName := ({ cls := "CribbageRoom", name := "makeLay", desc := "(II)I" } : Jvm.MethodName)
def tbX11_makeLay : List (Nat × Instr × Nat) := [(0, .iload_n 1, 1), (1, .invokestatic 106, 3), (4, .ifCond .eq 10, 3), (7, .iload_n 2, 1), (8, .invokestatic 141, 3), (11, .ifCond .ne 5, 3), (14, .iconst (-1), 1), (15, .ireturn, 1), (16, .aload_n 0, 1), (17, .getfield 12, 3), (20, .getfield 113, 3), (23, .astore_n 3, 1), (24, .aload_n 3, 1), (25, .iload_n 1, 1), (26, .iload_n 2, 1), (27, .invokevirtual 391, 3), (30, .ifCond .ne 6, 3), (33, .bipush (-3), 2), (35, .ireturn, 1), (36, .aload_n 0, 1), (37, .getfield 23, 3), (40, .aload_n 3, 1), (41, .iconst 1, 1), (42, .invokevirtual 387, 3), (45, .aload_n 3, 1), (46, .iload_n 1, 1), (47, .iload_n 2, 1), (48, .aload_n 0, 1), (49, .getfield 57, 3), (52, .invokevirtual 395, 3), (55, .aload_n 3, 1), (56, .getfield 172, 3), (59, .invokestatic 148, 3), (62, .ireturn, 1)]
theorem dX11_makeLay : ∀ q ∈ tbX11_makeLay, decode prog_1_method_47_code q.1 = .ok q.2 := by decide +kernel
set_option maxRecDepth 20000 in
theorem cX11_makeLay (l : Launch) (w : WX) (hL : Lay w) (t : Nat) (ht : Wat w t 11 0) (p1 : Int32) (p2 : Int32) (M : Mem) : Ct l w yX11_makeLay prog_1_method_47_code 4 (Option.some FieldType.int) 5 115 evIM emM [.ref t, .int p1, .int p2] M (FX11_makeLay t p1 p2 M) := by
  refine ct_of (by decide) (Nat.le_of_ble_eq_true rfl) (fun x hl hx hb hz => ?_)
  subst hl
  have hd : ∀ i, DAt (xc x).code (tbX11_makeLay[i]?) := fun i => by rw [hb]; exact dat_of dX11_makeLay i
  show C x w (Qn x w evIM emM) 4 0 [(0, .ref t), (1, .int p1), (2, .int p2)] [] M (FX11_makeLay t p1 p2 M)
  unfold FX11_makeLay
  refine r_iload_n (pc' := 1) hx (hd 0) rfl 1 rfl rfl ?_
  refine r_callS (pc' := 4) (As := [.int p1]) (rest := []) hx (hd 1) md_X11_isCard mst_X11_isCard ml_11_106 (cX11_isCard (xl x) w hL p1 M) ⟨Nat.le_of_ble_eq_true rfl, Nat.le_of_ble_eq_true rfl⟩ rfl rfl (Nat.le_of_ble_eq_true rfl) (fun r1 => .int r1 :: []) (fun _ => M) (fun _ => ⟨rfl, rfl⟩) rfl (fun r1 _ => ?_)
  refine r_jn0 14 ([]) ([]) (M) (?_) (fun j2 hj3 => ?_)
  · skip
    refine r_iconst (pc' := 15) (v := (-1)) hx (hd 6) (by decide) rfl ?_
    exact r_iret hx (hd 7) rfl rfl hz
  refine r_if_eq (tgt := 14) (pc' := 7) hx (hd 2) (by decide) (fun _ => ?_) rfl (fun _ => ?_)
  · skip
    refine r_sub [] rfl ?_
    exact hj3
  · skip
    refine r_iload_n (pc' := 8) hx (hd 3) rfl 2 rfl rfl ?_
    refine r_callS (pc' := 11) (As := [.int p2]) (rest := []) hx (hd 4) md_X11_isPlayer mst_X11_isPlayer ml_11_141 (cX11_isPlayer (xl x) w hL p2 M) ⟨Nat.le_of_ble_eq_true rfl, Nat.le_of_ble_eq_true rfl⟩ rfl rfl (Nat.le_of_ble_eq_true rfl) (fun r4 => .int r4 :: []) (fun _ => M) (fun _ => ⟨rfl, rfl⟩) rfl (fun r4 _ => ?_)
    refine r_if_ne (tgt := 16) (pc' := 14) hx (hd 5) (by decide) (fun _ => ?_) rfl (fun _ => ?_)
    · skip
      refine r_aload_n (pc' := 17) hx (hd 8) rfl 0 rfl rfl ?_
      refine r_get (pc' := 20) (v := .ref (t + 1)) hx (hd 9) fl_11_12 ht rfl (by decide) rfl ?_
      have h5 := hL.1 _ _ _ ht 0 1 6 0 rfl
      refine r_get (pc' := 23) (v := .ref ((t + 1) + 1)) hx (hd 10) fl_11_113 h5 rfl (by decide) rfl ?_
      have h6 := hL.1 _ _ _ h5 0 1 8 0 rfl
      refine r_astore_n (pc' := 24) (L' := [(3, .ref ((t + 1) + 1)), (0, .ref t), (1, .int p1), (2, .int p2)]) hx (hd 11) rfl (by decide) rfl rfl ?_
      refine r_aload_n (pc' := 25) hx (hd 12) rfl 0 rfl rfl ?_
      refine r_iload_n (pc' := 26) hx (hd 13) rfl 2 rfl rfl ?_
      refine r_iload_n (pc' := 27) hx (hd 14) rfl 3 rfl rfl ?_
      refine r_callV (pc' := 30) (As := [.int p1, .int p2]) (rest := []) hx (hd 15) md_X8_canLay mi_X8_canLay ms_X8_canLay ml_11_391 (cX8_canLay (xl x) w hL ((t + 1) + 1) h6 p1 p2 M) h6 rfl (by decide) ⟨Nat.le_of_ble_eq_true rfl, Nat.le_of_ble_eq_true rfl⟩ rfl rfl (Nat.le_of_ble_eq_true rfl) (fun r7 => .int r7 :: []) (fun _ => M) (fun _ => ⟨rfl, rfl⟩) rfl (fun r7 _ => ?_)
      refine r_if_ne (tgt := 36) (pc' := 33) hx (hd 16) (by decide) (fun _ => ?_) rfl (fun _ => ?_)
      · skip
        refine r_aload_n (pc' := 37) hx (hd 19) rfl 1 rfl rfl ?_
        refine r_get (pc' := 40) (v := .ref (t + 29)) hx (hd 20) fl_11_23 ht rfl (by decide) rfl ?_
        have h8 := hL.1 _ _ _ ht 2 29 4 0 rfl
        refine r_aload_n (pc' := 41) hx (hd 21) rfl 0 rfl rfl ?_
        refine r_iconst (pc' := 42) (v := 1) hx (hd 22) (by decide) rfl ?_
        refine r_callVU (pc' := 45) (As := [.ref ((t + 1) + 1), .int 1]) (rest := []) hx (hd 23) md_X4_push mi_X4_push ms_X4_push ml_11_387 (cX4_push (xl x) w hL (t + 29) h8 ((t + 1) + 1) h6 1 M) h8 rfl (by decide) ⟨Nat.le_of_ble_eq_true rfl, Nat.le_of_ble_eq_true rfl⟩ rfl rfl (Nat.le_of_ble_eq_true rfl) rfl (fun M9 => ?_)
        refine r_aload_n (pc' := 46) hx (hd 24) rfl 0 rfl rfl ?_
        refine r_iload_n (pc' := 47) hx (hd 25) rfl 2 rfl rfl ?_
        refine r_iload_n (pc' := 48) hx (hd 26) rfl 3 rfl rfl ?_
        refine r_aload_n (pc' := 49) hx (hd 27) rfl 1 rfl rfl ?_
        refine r_get (pc' := 52) (v := .ref (t + 179)) hx (hd 28) fl_11_57 ht rfl (by decide) rfl ?_
        have h10 := hL.1 _ _ _ ht 8 179 10 0 rfl
        refine r_callVU (pc' := 55) (As := [.int p1, .int p2, .ref (t + 179)]) (rest := []) hx (hd 29) md_X8_layAway mi_X8_layAway ms_X8_layAway ml_11_395 (cX8_layAway (xl x) w hL ((t + 1) + 1) h6 p1 p2 (t + 179) h10 M9) h6 rfl (by decide) ⟨Nat.le_of_ble_eq_true rfl, Nat.le_of_ble_eq_true rfl⟩ rfl rfl (Nat.le_of_ble_eq_true rfl) rfl (fun M11 => ?_)
        refine r_aload_n (pc' := 56) hx (hd 30) rfl 0 rfl rfl ?_
        refine r_get (pc' := 59) (v := .long (mJ M11 ((t + 1) + 1) 3)) hx (hd 31) fl_11_172 h6 rfl (by decide) rfl ?_
        refine r_callS (pc' := 62) (As := [.long (mJ M11 ((t + 1) + 1) 3)]) (rest := []) hx (hd 32) md_J_Long_bitCount mst_J_Long_bitCount ml_11_148 (cJ_Long_bitCount (xl x) w hL (mJ M11 ((t + 1) + 1) 3) M11) ⟨Nat.le_of_ble_eq_true rfl, Nat.le_of_ble_eq_true rfl⟩ rfl rfl (Nat.le_of_ble_eq_true rfl) (fun r12 => .int r12 :: []) (fun _ => M11) (fun _ => ⟨rfl, rfl⟩) rfl (fun r12 _ => ?_)
        exact r_iret hx (hd 33) rfl rfl hz
      · skip
        refine r_bipush (pc' := 35) (v := (-3)) hx (hd 17) (by decide) rfl ?_
        exact r_iret hx (hd 18) rfl rfl hz
    · skip
      refine r_sub [] rfl ?_
      exact hj3
