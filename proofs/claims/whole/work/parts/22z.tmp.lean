def FX6_term (t : Nat) (p1 : Int32) (M : Mem) : Option (Int32) :=
  jn1 (fun (v1 : Int32) =>
    some v1) fun j2 =>
  jn0 (
    j2 (mI M (t + 1) 12)) fun j4 =>
  if p1 < 1 then
    j4
  else
  if 4 ≤ p1 then
    j4
  else
  gd (inb (p1 - 1) 3) <|
  j2 (mI M (t + 8) (ix (p1 - 1)))
abbrev yX6_term : MethodName := ({ cls := "CribbageRoom$State", name := "term", desc := "(I)I" } : Jvm.MethodName)
def tbX6_term : List (Nat × Instr × Nat) := [(0, .iload_n 1, 1), (1, .iconst 1, 1), (2, .if_icmp .lt 19, 3), (5, .iload_n 1, 1), (6, .iconst 4, 1), (7, .if_icmp .ge 14, 3), (10, .aload_n 0, 1), (11, .getfield 31, 3), (14, .iload_n 1, 1), (15, .iconst 1, 1), (16, .isub, 1), (17, .iaload, 1), (18, .goto 10, 3), (21, .aload_n 0, 1), (22, .getfield 12, 3), (25, .getfield 38, 3), (28, .ireturn, 1)]
theorem dX6_term : ∀ q ∈ tbX6_term, decode prog_8_method_2_code q.1 = .ok q.2 := by decide +kernel
set_option maxRecDepth 20000 in
theorem cX6_term (l : Launch) (w : WX) (hL : Lay w) (t : Nat) (ht : Wat w t 6 0) (p1 : Int32) (M : Mem) : Ct l w yX6_term prog_8_method_2_code 2 (Option.some FieldType.int) 0 0 evI (emC M) [.ref t, .int p1] M (FX6_term t p1 M) := by
  refine ct_of (by decide) (Nat.le_of_ble_eq_true rfl) (fun x hl hx hb hz => ?_)
  subst hl
  have hd : ∀ i, DAt (xc x).code (tbX6_term[i]?) := fun i => by rw [hb]; exact dat_of dX6_term i
  show C x w (Qn x w evI (emC M)) 2 0 [(0, .ref t), (1, .int p1)] [] M (FX6_term t p1 M)
  unfold FX6_term
  refine r_iload_n (pc' := 1) hx (hd 0) rfl 1 rfl rfl ?_
  refine r_iconst (pc' := 2) (v := 1) hx (hd 1) (by decide) rfl ?_
  refine r_jn1 28 (fun v1 => []) (fun v1 => [.int v1]) (fun v1 => M) (fun v1 => ?_) (fun j2 hj3 => ?_)
  · skip
    exact r_iret hx (hd 16) rfl rfl hz
  refine r_jn0 21 ([(0, .ref t)]) ([]) (M) (?_) (fun j4 hj5 => ?_)
  · skip
    refine r_aload_n (pc' := 22) hx (hd 13) rfl 0 rfl rfl ?_
    refine r_get (pc' := 25) (v := .ref (t + 1)) hx (hd 14) fl_6_12 ht rfl (by decide) rfl ?_
    have h6 := hL.1 _ _ _ ht 0 1 8 0 rfl
    refine r_get (pc' := 28) (v := .int (mI M (t + 1) 12)) hx (hd 15) fl_6_38 h6 rfl (by decide) rfl ?_
    refine r_sub [] rfl ?_
    exact hj3 (mI M (t + 1) 12)
  refine r_icmp_lt (tgt := 21) (pc' := 5) hx (hd 2) (by decide) (fun _ => ?_) rfl (fun _ => ?_)
  · skip
    refine r_sub [0] rfl ?_
    exact hj5
  · skip
    refine r_iload_n (pc' := 6) hx (hd 3) rfl 1 rfl rfl ?_
    refine r_iconst (pc' := 7) (v := 4) hx (hd 4) (by decide) rfl ?_
    refine r_icmp_ge (tgt := 21) (pc' := 10) hx (hd 5) (by decide) (fun _ => ?_) rfl (fun _ => ?_)
    · skip
      refine r_sub [0] rfl ?_
      exact hj5
    · skip
      refine r_aload_n (pc' := 11) hx (hd 6) rfl 0 rfl rfl ?_
      refine r_get (pc' := 14) (v := .ref (t + 8)) hx (hd 7) fl_6_31 ht rfl (by decide) rfl ?_
      have h7 := hL.1 _ _ _ ht 4 8 20 3 rfl
      refine r_iload_n (pc' := 15) hx (hd 8) rfl 1 rfl rfl ?_
      refine r_iconst (pc' := 16) (v := 1) hx (hd 9) (by decide) rfl ?_
      refine r_isub (pc' := 17) hx (hd 10) rfl ?_
      refine r_gd (fun h8 => ?_)
      refine r_iald (pc' := 18) (k := ix (p1 - 1)) hx (hd 11) h7 h8 rfl rfl ?_
      refine r_goto (tgt := 28) hx (hd 12) (by decide) ?_
      refine r_sub [] rfl ?_
      exact hj3 (mI M (t + 8) (ix (p1 - 1)))
