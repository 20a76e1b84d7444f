def UZ_X8_init : Mem := (fun _ _ => 0, fun _ _ => 0, fun _ _ => none, fun _ => 0)
def vX8_init_0 : Mem := UZ_X8_init
def qX8_init_0 (t : Nat) : Nat → Nat → Option Nat := fun _ _ => none
def vX8_init_1 : Mem := vX8_init_0
def qX8_init_1 (t : Nat) : Nat → Nat → Option Nat := up2 (qX8_init_0 t) 0 0 (some (t + 1))
def vX8_init_2 : Mem := vX8_init_1
def qX8_init_2 (t : Nat) : Nat → Nat → Option Nat := up2 (qX8_init_1 t) 0 1 (some (t + 2))
def vX8_init_3 : Mem := vX8_init_2
def qX8_init_3 (t : Nat) : Nat → Nat → Option Nat := up2 (qX8_init_2 t) 0 2 (some (t + 3))
def vX8_init_4 : Mem := sI vX8_init_3 0 5 0
def qX8_init_4 (t : Nat) : Nat → Nat → Option Nat := (qX8_init_3 t)
def vX8_init_5 : Mem := sI vX8_init_4 0 6 1
def qX8_init_5 (t : Nat) : Nat → Nat → Option Nat := (qX8_init_4 t)
def vX8_init_6 : Mem := sI vX8_init_5 0 7 (-1)
def qX8_init_6 (t : Nat) : Nat → Nat → Option Nat := (qX8_init_5 t)
def vX8_init_7 : Mem := sI vX8_init_6 0 10 (-1)
def qX8_init_7 (t : Nat) : Nat → Nat → Option Nat := (qX8_init_6 t)
def vX8_init_8 : Mem := sI vX8_init_7 0 11 (-1)
def qX8_init_8 (t : Nat) : Nat → Nat → Option Nat := (qX8_init_7 t)
def T_X8_init : Mem := clrR vX8_init_8
def gX8_init_0 : List (Nat × Nat) := [(48, 0)]
def gX8_init_1 : List (Nat × Nat) := gX8_init_0 ++ [(21, 2)]
def gX8_init_2 : List (Nat × Nat) := gX8_init_1 ++ [(20, 2)]
def gX8_init_3 : List (Nat × Nat) := gX8_init_2 ++ [(20, 8)]
def G_X8_init : List (Nat × Nat) := [(8, 0), (21, 2), (20, 2), (20, 8)]
abbrev yX8_init : MethodName := ({ cls := "CribbageRoom$Table", name := "<init>", desc := "()V" } : Jvm.MethodName)
def tbX8_init : List (Nat × Instr × Nat) := [(0, .aload_n 0, 1), (1, .invokespecial 3, 3), (4, .aload_n 0, 1), (5, .iconst 2, 1), (6, .newarray .long, 2), (8, .putfield 9, 3), (11, .aload_n 0, 1), (12, .iconst 2, 1), (13, .newarray .int, 2), (15, .putfield 15, 3), (18, .aload_n 0, 1), (19, .bipush 8, 2), (21, .newarray .int, 2), (23, .putfield 19, 3), (26, .aload_n 0, 1), (27, .iconst 0, 1), (28, .putfield 22, 3), (31, .aload_n 0, 1), (32, .iconst 1, 1), (33, .putfield 26, 3), (36, .aload_n 0, 1), (37, .iconst (-1), 1), (38, .putfield 29, 3), (41, .aload_n 0, 1), (42, .iconst (-1), 1), (43, .putfield 32, 3), (46, .aload_n 0, 1), (47, .iconst (-1), 1), (48, .putfield 35, 3), (51, .return_, 1)]
theorem dX8_init : ∀ q ∈ tbX8_init, decode prog_10_method_1_code q.1 = .ok q.2 := by decide +kernel
set_option maxRecDepth 50000 in
set_option maxHeartbeats 4000000 in
theorem cX8_init (l : Launch) (w : WX) (t : Nat) (hb : Bel w t) (hz : wz w ≤ t) (hL : Lay w) (M : Mem) : CtI l w t 8 yX8_init prog_10_method_1_code 1 1 20 3 12 [.ref t] (put M t 4 UZ_X8_init) G_X8_init (put M t 4 T_X8_init) := by
  refine ctI_of (by decide) rfl (Nat.le_of_ble_eq_true rfl) (fun x hl hsz hR hin hx0 hb9 => ?_)
  subst hl
  have hd : ∀ i, DAt (xc x).code (tbX8_init[i]?) := fun i => by rw [hb9]; exact dat_of dX8_init i
  show C (xat x 0 0) (wg w t gX8_init_0) (Qi x w t G_X8_init (put M t 4 T_X8_init) 3 12) 1 0 [(0, .ref t)] [] (put M t 4 UZ_X8_init) (some ())
  refine z_as (U' := (wr vX8_init_0 (qX8_init_0 t))) rfl ?_
  have zr0 : Zr UZ_X8_init (wr vX8_init_0 (qX8_init_0 t)) 1 := Zr.z0 rfl rfl rfl rfl
  have rn0 : Rn (wr vX8_init_0 (qX8_init_0 t)) [0] := Rn.z9 rfl
  refine r_aload_n (pc' := 1) hx0 (hd 0) rfl 0 rfl rfl ?_
  refine q_objI hx0 (hd 1) mlI_8_3 ob_in ob_cd ⟨Nat.le_of_ble_eq_true rfl, Nat.le_of_ble_eq_true rfl⟩ (Nat.le_of_ble_eq_true rfl) ?_
  refine r_pcA (pc' := 4) rfl ?_
  refine r_aload_n (pc' := 5) hx0 (hd 2) rfl 0 rfl rfl ?_
  refine r_iconst (pc' := 6) (v := 2) hx0 (hd 3) (by decide) rfl ?_
  refine q_newa (gn := 2) (G := gX8_init_0) (K := 0) (N := 0) (kd := 21) (c := 1) (n := 2) (o := 1) (ty := .long) (e9 := .inr (.inl (fun _ => 0))) rfl hb hz (by decide) (by rw [hsz]; exact (by omega : t + 1 + 0 = t + 1)) hx0 (hd 4) rfl ar_long rfl (fun _ _ h => h) (by decide) (by decide) (by decide) (by rw [hR.1]; decide) (by rw [hR.2]; decide) (fun _ => rfl) (ce_long (by decide) (zr0 1 (by decide)).2.1) (nr_put (by decide) (zr0 1 (by decide)).2.2.1) ?_
  have hx1 : Ok _ 1 none _ _ (wg w t gX8_init_1) (xat x 1 2) := ok_grow (w' := wg w t gX8_init_1) hx0 rfl rfl rfl rfl (lay_wg hL hb (by decide +kernel)) (by rw [hR.1]; decide) (by rw [hR.2]; decide)
  refine z_putR (pc' := 11) (o := 1) (by decide) hx1 (hd 5) hin fw_8_9 (wat_new (G := gX8_init_1) (o := 0) (kd := 40 + 8) (n := 0) (by decide +kernel)) rfl (by decide) rfl rfl rfl ?_
  refine z_as (U' := (wr vX8_init_1 (qX8_init_1 t))) rfl ?_
  have zr1 : Zr UZ_X8_init (wr vX8_init_1 (qX8_init_1 t)) 2 := Zr.r zr0 (by decide)
  have rn1 : Rn (wr vX8_init_1 (qX8_init_1 t)) [0] := Rn.r rn0 (by decide)
  refine r_aload_n (pc' := 12) hx1 (hd 6) rfl 0 rfl rfl ?_
  refine r_iconst (pc' := 13) (v := 2) hx1 (hd 7) (by decide) rfl ?_
  refine q_newa (gn := 2) (G := gX8_init_1) (K := 1) (N := 2) (kd := 20) (c := 0) (n := 2) (o := 2) (ty := .int) (e9 := .inl (fun _ => 0)) rfl hb hz (by decide) (by rw [hsz]; exact (by omega : t + 1 + 1 = t + 2)) hx1 (hd 8) rfl ar_int rfl (fun _ _ h => h) (by decide) (by decide) (by decide) (by rw [hR.1]; decide) (by rw [hR.2]; decide) (fun _ => rfl) (ce_int (by decide) (zr1 2 (by decide)).1) (nr_put (by decide) (zr1 2 (by decide)).2.2.1) ?_
  have hx2 : Ok _ 1 none _ _ (wg w t gX8_init_2) (xat x 2 4) := ok_grow (w' := wg w t gX8_init_2) hx1 rfl rfl rfl rfl (lay_wg hL hb (by decide +kernel)) (by rw [hR.1]; decide) (by rw [hR.2]; decide)
  refine z_putR (pc' := 18) (o := 2) (by decide) hx2 (hd 9) hin fw_8_15 (wat_new (G := gX8_init_2) (o := 0) (kd := 40 + 8) (n := 0) (by decide +kernel)) rfl (by decide) rfl rfl rfl ?_
  refine z_as (U' := (wr vX8_init_2 (qX8_init_2 t))) rfl ?_
  have zr2 : Zr UZ_X8_init (wr vX8_init_2 (qX8_init_2 t)) 3 := Zr.r zr1 (by decide)
  have rn2 : Rn (wr vX8_init_2 (qX8_init_2 t)) [0] := Rn.r rn1 (by decide)
  refine r_aload_n (pc' := 19) hx2 (hd 10) rfl 0 rfl rfl ?_
  refine r_bipush (pc' := 21) (v := 8) hx2 (hd 11) (by decide) rfl ?_
  refine q_newa (gn := 8) (G := gX8_init_2) (K := 2) (N := 4) (kd := 20) (c := 0) (n := 8) (o := 3) (ty := .int) (e9 := .inl (fun _ => 0)) rfl hb hz (by decide) (by rw [hsz]; exact (by omega : t + 1 + 2 = t + 3)) hx2 (hd 12) rfl ar_int rfl (fun _ _ h => h) (by decide) (by decide) (by decide) (by rw [hR.1]; decide) (by rw [hR.2]; decide) (fun _ => rfl) (ce_int (by decide) (zr2 3 (by decide)).1) (nr_put (by decide) (zr2 3 (by decide)).2.2.1) ?_
  have hx3 : Ok _ 1 none _ _ (wg w t gX8_init_3) (xat x 3 12) := ok_grow (w' := wg w t gX8_init_3) hx2 rfl rfl rfl rfl (lay_wg hL hb (by decide +kernel)) (by rw [hR.1]; decide) (by rw [hR.2]; decide)
  refine z_putR (pc' := 26) (o := 3) (by decide) hx3 (hd 13) hin fw_8_19 (wat_new (G := gX8_init_3) (o := 0) (kd := 40 + 8) (n := 0) (by decide +kernel)) rfl (by decide) rfl rfl rfl ?_
  refine z_as (U' := (wr vX8_init_3 (qX8_init_3 t))) rfl ?_
  have zr3 : Zr UZ_X8_init (wr vX8_init_3 (qX8_init_3 t)) 4 := Zr.r zr2 (by decide)
  have rn3 : Rn (wr vX8_init_3 (qX8_init_3 t)) [0] := Rn.r rn2 (by decide)
  refine r_aload_n (pc' := 27) hx3 (hd 14) rfl 0 rfl rfl ?_
  refine r_iconst (pc' := 28) (v := 0) hx3 (hd 15) (by decide) rfl ?_
  refine z_putI (pc' := 31) (by decide) hx3 (hd 16) hin fw_8_22 (wat_new (G := gX8_init_3) (o := 0) (kd := 40 + 8) (n := 0) (by decide +kernel)) rfl (by decide) rfl rfl rfl ?_
  refine z_as (U' := (wr vX8_init_4 (qX8_init_4 t))) rfl ?_
  have zr4 : Zr UZ_X8_init (wr vX8_init_4 (qX8_init_4 t)) 4 := Zr.i zr3 (by decide)
  have rn4 : Rn (wr vX8_init_4 (qX8_init_4 t)) [0] := Rn.i rn3
  refine r_aload_n (pc' := 32) hx3 (hd 17) rfl 0 rfl rfl ?_
  refine r_iconst (pc' := 33) (v := 1) hx3 (hd 18) (by decide) rfl ?_
  refine z_putI (pc' := 36) (by decide) hx3 (hd 19) hin fw_8_26 (wat_new (G := gX8_init_3) (o := 0) (kd := 40 + 8) (n := 0) (by decide +kernel)) rfl (by decide) rfl rfl rfl ?_
  refine z_as (U' := (wr vX8_init_5 (qX8_init_5 t))) rfl ?_
  have zr5 : Zr UZ_X8_init (wr vX8_init_5 (qX8_init_5 t)) 4 := Zr.i zr4 (by decide)
  have rn5 : Rn (wr vX8_init_5 (qX8_init_5 t)) [0] := Rn.i rn4
  refine r_aload_n (pc' := 37) hx3 (hd 20) rfl 0 rfl rfl ?_
  refine r_iconst (pc' := 38) (v := (-1)) hx3 (hd 21) (by decide) rfl ?_
  refine z_putI (pc' := 41) (by decide) hx3 (hd 22) hin fw_8_29 (wat_new (G := gX8_init_3) (o := 0) (kd := 40 + 8) (n := 0) (by decide +kernel)) rfl (by decide) rfl rfl rfl ?_
  refine z_as (U' := (wr vX8_init_6 (qX8_init_6 t))) rfl ?_
  have zr6 : Zr UZ_X8_init (wr vX8_init_6 (qX8_init_6 t)) 4 := Zr.i zr5 (by decide)
  have rn6 : Rn (wr vX8_init_6 (qX8_init_6 t)) [0] := Rn.i rn5
  refine r_aload_n (pc' := 42) hx3 (hd 23) rfl 0 rfl rfl ?_
  refine r_iconst (pc' := 43) (v := (-1)) hx3 (hd 24) (by decide) rfl ?_
  refine z_putI (pc' := 46) (by decide) hx3 (hd 25) hin fw_8_32 (wat_new (G := gX8_init_3) (o := 0) (kd := 40 + 8) (n := 0) (by decide +kernel)) rfl (by decide) rfl rfl rfl ?_
  refine z_as (U' := (wr vX8_init_7 (qX8_init_7 t))) rfl ?_
  have zr7 : Zr UZ_X8_init (wr vX8_init_7 (qX8_init_7 t)) 4 := Zr.i zr6 (by decide)
  have rn7 : Rn (wr vX8_init_7 (qX8_init_7 t)) [0] := Rn.i rn6
  refine r_aload_n (pc' := 47) hx3 (hd 26) rfl 0 rfl rfl ?_
  refine r_iconst (pc' := 48) (v := (-1)) hx3 (hd 27) (by decide) rfl ?_
  refine z_putI (pc' := 51) (by decide) hx3 (hd 28) hin fw_8_35 (wat_new (G := gX8_init_3) (o := 0) (kd := 40 + 8) (n := 0) (by decide +kernel)) rfl (by decide) rfl rfl rfl ?_
  refine z_as (U' := (wr vX8_init_8 (qX8_init_8 t))) rfl ?_
  have zr8 : Zr UZ_X8_init (wr vX8_init_8 (qX8_init_8 t)) 4 := Zr.i zr7 (by decide)
  have rn8 : Rn (wr vX8_init_8 (qX8_init_8 t)) [0] := Rn.i rn7
  refine z_done (G := gX8_init_3) (G' := G_X8_init) (l := [0]) (T := T_X8_init) (ci := 8) hb rfl rfl rn8 (by decide +kernel) (by decide +kernel) (fun o ho H => by
    have e9 : o = 0 := by simpa using ho
    subst e9
    exact va_done (S := 4) (ci := 8) (by decide) (by decide) (fun k hk => by
      match k, hk with
      | 0, _ => first | exact trivial | exact rfl
      | 1, _ => first | exact trivial | exact rfl
      | 2, _ => first | exact trivial | exact rfl
      | 3, _ => first | exact trivial | exact rfl
      | 4, _ => first | exact trivial | exact rfl
      | 5, _ => first | exact trivial | exact rfl
      | 6, _ => first | exact trivial | exact rfl
      | 7, _ => first | exact trivial | exact rfl
      | 8, _ => first | exact trivial | exact rfl
      | 9, _ => first | exact trivial | exact rfl
      | 10, _ => first | exact trivial | exact rfl
      | 11, _ => first | exact trivial | exact rfl
      | 12, _ => first | exact trivial | exact rfl
      | n + 13, h => exact absurd h (by rw [show nf 8 = 13 from rfl]; omega))) rfl ?_
  exact q_vretI (ok_grow (w' := wg w t G_X8_init) hx3 rfl rfl rfl rfl (lay_wg hL hb (by decide +kernel)) (by rw [hR.1]; decide) (by rw [hR.2]; decide)) (hd 29)
def UZ_X7_init : Mem := (fun _ _ => 0, fun _ _ => 0, fun _ _ => none, fun _ => 0)
def vX7_init_0 : Mem := UZ_X7_init
def qX7_init_0 (t : Nat) : Nat → Nat → Option Nat := fun _ _ => none
def vX7_init_1 : Mem := vX7_init_0
def qX7_init_1 (t : Nat) : Nat → Nat → Option Nat := up2 (qX7_init_0 t) 0 0 (some (t + 1))
def vX7_init_2 : Mem := vX7_init_1
def qX7_init_2 (t : Nat) : Nat → Nat → Option Nat := up2 (qX7_init_1 t) 0 1 (some (t + 2))
def T_X7_init : Mem := clrR vX7_init_2
def gX7_init_0 : List (Nat × Nat) := [(47, 0)]
def gX7_init_1 : List (Nat × Nat) := gX7_init_0 ++ [(20, 19)]
def gX7_init_2 : List (Nat × Nat) := gX7_init_1 ++ [(21, 32)]
def G_X7_init : List (Nat × Nat) := [(7, 0), (20, 19), (21, 32)]
abbrev yX7_init : MethodName := ({ cls := "CribbageRoom$Sums", name := "<init>", desc := "()V" } : Jvm.MethodName)
def tbX7_init : List (Nat × Instr × Nat) := [(0, .aload_n 0, 1), (1, .invokespecial 3, 3), (4, .aload_n 0, 1), (5, .bipush 19, 2), (7, .newarray .int, 2), (9, .putfield 9, 3), (12, .aload_n 0, 1), (13, .bipush 32, 2), (15, .newarray .long, 2), (17, .putfield 15, 3), (20, .return_, 1)]
theorem dX7_init : ∀ q ∈ tbX7_init, decode prog_9_method_1_code q.1 = .ok q.2 := by decide +kernel
set_option maxRecDepth 50000 in
set_option maxHeartbeats 4000000 in
theorem cX7_init (l : Launch) (w : WX) (t : Nat) (hb : Bel w t) (hz : wz w ≤ t) (hL : Lay w) (M : Mem) : CtI l w t 7 yX7_init prog_9_method_1_code 1 1 20 2 51 [.ref t] (put M t 3 UZ_X7_init) G_X7_init (put M t 3 T_X7_init) := by
  refine ctI_of (by decide) rfl (Nat.le_of_ble_eq_true rfl) (fun x hl hsz hR hin hx0 hb9 => ?_)
  subst hl
  have hd : ∀ i, DAt (xc x).code (tbX7_init[i]?) := fun i => by rw [hb9]; exact dat_of dX7_init i
  show C (xat x 0 0) (wg w t gX7_init_0) (Qi x w t G_X7_init (put M t 3 T_X7_init) 2 51) 1 0 [(0, .ref t)] [] (put M t 3 UZ_X7_init) (some ())
  refine z_as (U' := (wr vX7_init_0 (qX7_init_0 t))) rfl ?_
  have zr0 : Zr UZ_X7_init (wr vX7_init_0 (qX7_init_0 t)) 1 := Zr.z0 rfl rfl rfl rfl
  have rn0 : Rn (wr vX7_init_0 (qX7_init_0 t)) [0] := Rn.z9 rfl
  refine r_aload_n (pc' := 1) hx0 (hd 0) rfl 0 rfl rfl ?_
  refine q_objI hx0 (hd 1) mlI_7_3 ob_in ob_cd ⟨Nat.le_of_ble_eq_true rfl, Nat.le_of_ble_eq_true rfl⟩ (Nat.le_of_ble_eq_true rfl) ?_
  refine r_pcA (pc' := 4) rfl ?_
  refine r_aload_n (pc' := 5) hx0 (hd 2) rfl 0 rfl rfl ?_
  refine r_bipush (pc' := 7) (v := 19) hx0 (hd 3) (by decide) rfl ?_
  refine q_newa (gn := 19) (G := gX7_init_0) (K := 0) (N := 0) (kd := 20) (c := 0) (n := 19) (o := 1) (ty := .int) (e9 := .inl (fun _ => 0)) rfl hb hz (by decide) (by rw [hsz]; exact (by omega : t + 1 + 0 = t + 1)) hx0 (hd 4) rfl ar_int rfl (fun _ _ h => h) (by decide) (by decide) (by decide) (by rw [hR.1]; decide) (by rw [hR.2]; decide) (fun _ => rfl) (ce_int (by decide) (zr0 1 (by decide)).1) (nr_put (by decide) (zr0 1 (by decide)).2.2.1) ?_
  have hx1 : Ok _ 1 none _ _ (wg w t gX7_init_1) (xat x 1 19) := ok_grow (w' := wg w t gX7_init_1) hx0 rfl rfl rfl rfl (lay_wg hL hb (by decide +kernel)) (by rw [hR.1]; decide) (by rw [hR.2]; decide)
  refine z_putR (pc' := 12) (o := 1) (by decide) hx1 (hd 5) hin fw_7_9 (wat_new (G := gX7_init_1) (o := 0) (kd := 40 + 7) (n := 0) (by decide +kernel)) rfl (by decide) rfl rfl rfl ?_
  refine z_as (U' := (wr vX7_init_1 (qX7_init_1 t))) rfl ?_
  have zr1 : Zr UZ_X7_init (wr vX7_init_1 (qX7_init_1 t)) 2 := Zr.r zr0 (by decide)
  have rn1 : Rn (wr vX7_init_1 (qX7_init_1 t)) [0] := Rn.r rn0 (by decide)
  refine r_aload_n (pc' := 13) hx1 (hd 6) rfl 0 rfl rfl ?_
  refine r_bipush (pc' := 15) (v := 32) hx1 (hd 7) (by decide) rfl ?_
  refine q_newa (gn := 32) (G := gX7_init_1) (K := 1) (N := 19) (kd := 21) (c := 1) (n := 32) (o := 2) (ty := .long) (e9 := .inr (.inl (fun _ => 0))) rfl hb hz (by decide) (by rw [hsz]; exact (by omega : t + 1 + 1 = t + 2)) hx1 (hd 8) rfl ar_long rfl (fun _ _ h => h) (by decide) (by decide) (by decide) (by rw [hR.1]; decide) (by rw [hR.2]; decide) (fun _ => rfl) (ce_long (by decide) (zr1 2 (by decide)).2.1) (nr_put (by decide) (zr1 2 (by decide)).2.2.1) ?_
  have hx2 : Ok _ 1 none _ _ (wg w t gX7_init_2) (xat x 2 51) := ok_grow (w' := wg w t gX7_init_2) hx1 rfl rfl rfl rfl (lay_wg hL hb (by decide +kernel)) (by rw [hR.1]; decide) (by rw [hR.2]; decide)
  refine z_putR (pc' := 20) (o := 2) (by decide) hx2 (hd 9) hin fw_7_15 (wat_new (G := gX7_init_2) (o := 0) (kd := 40 + 7) (n := 0) (by decide +kernel)) rfl (by decide) rfl rfl rfl ?_
  refine z_as (U' := (wr vX7_init_2 (qX7_init_2 t))) rfl ?_
  have zr2 : Zr UZ_X7_init (wr vX7_init_2 (qX7_init_2 t)) 3 := Zr.r zr1 (by decide)
  have rn2 : Rn (wr vX7_init_2 (qX7_init_2 t)) [0] := Rn.r rn1 (by decide)
  refine z_done (G := gX7_init_2) (G' := G_X7_init) (l := [0]) (T := T_X7_init) (ci := 7) hb rfl rfl rn2 (by decide +kernel) (by decide +kernel) (fun o ho H => by
    have e9 : o = 0 := by simpa using ho
    subst e9
    exact va_done (S := 3) (ci := 7) (by decide) (by decide) (fun k hk => by
      match k, hk with
      | 0, _ => first | exact trivial | exact rfl
      | 1, _ => first | exact trivial | exact rfl
      | 2, _ => first | exact trivial | exact rfl
      | 3, _ => first | exact trivial | exact rfl
      | 4, _ => first | exact trivial | exact rfl
      | 5, _ => first | exact trivial | exact rfl
      | n + 6, h => exact absurd h (by rw [show nf 7 = 6 from rfl]; omega))) rfl ?_
  exact q_vretI (ok_grow (w' := wg w t G_X7_init) hx2 rfl rfl rfl rfl (lay_wg hL hb (by decide +kernel)) (by rw [hR.1]; decide) (by rw [hR.2]; decide)) (hd 10)
def UZ_X9_init_0 : Mem := (fun _ _ => 0, fun _ _ => 0, fun _ _ => none, fun o => if o = 1 then 800 else if o = 2 then 72 else 0)
def vX9_init_0_0 : Mem := UZ_X9_init_0
def qX9_init_0_0 (t : Nat) : Nat → Nat → Option Nat := fun _ _ => none
def vX9_init_0_1 : Mem := vX9_init_0_0
def qX9_init_0_1 (t : Nat) : Nat → Nat → Option Nat := up2 (qX9_init_0_0 t) 0 0 (some (t + 1))
def vX9_init_0_2 : Mem := vX9_init_0_1
def qX9_init_0_2 (t : Nat) : Nat → Nat → Option Nat := up2 (qX9_init_0_1 t) 0 1 (some (t + 2))
def T_X9_init_0 : Mem := clrR vX9_init_0_2
def gX9_init_0_0 : List (Nat × Nat) := [(49, 0)]
def gX9_init_0_1 : List (Nat × Nat) := gX9_init_0_0 ++ [(23, 0)]
def gX9_init_0_2 : List (Nat × Nat) := gX9_init_0_1 ++ [(23, 0)]
def G_X9_init_0 : List (Nat × Nat) := [(9, 0), (23, 0), (23, 0)]
abbrev yX9_init_0 : MethodName := ({ cls := "CribbageRoom$Text", name := "<init>", desc := "()V" } : Jvm.MethodName)
def tbX9_init_0 : List (Nat × Instr × Nat) := [(0, .aload_n 0, 1), (1, .invokespecial 3, 3), (4, .aload_n 0, 1), (5, .sipush 800, 3), (8, .newarray .int, 2), (10, .putfield 9, 3), (13, .aload_n 0, 1), (14, .bipush 72, 2), (16, .newarray .int, 2), (18, .putfield 15, 3), (21, .return_, 1)]
theorem dX9_init_0 : ∀ q ∈ tbX9_init_0, decode prog_11_method_1_code q.1 = .ok q.2 := by decide +kernel
set_option maxRecDepth 50000 in
set_option maxHeartbeats 4000000 in
theorem cX9_init_0 (l : Launch) (w : WX) (t : Nat) (hb : Bel w t) (hz : wz w ≤ t) (hL : Lay w) (M : Mem) : CtI l w t 9 yX9_init_0 prog_11_method_1_code 1 1 20 2 872 [.ref t] (put M t 3 UZ_X9_init_0) G_X9_init_0 (put M t 3 T_X9_init_0) := by
  refine ctI_of (by decide) rfl (Nat.le_of_ble_eq_true rfl) (fun x hl hsz hR hin hx0 hb9 => ?_)
  subst hl
  have hd : ∀ i, DAt (xc x).code (tbX9_init_0[i]?) := fun i => by rw [hb9]; exact dat_of dX9_init_0 i
  show C (xat x 0 0) (wg w t gX9_init_0_0) (Qi x w t G_X9_init_0 (put M t 3 T_X9_init_0) 2 872) 1 0 [(0, .ref t)] [] (put M t 3 UZ_X9_init_0) (some ())
  refine z_as (U' := (wr vX9_init_0_0 (qX9_init_0_0 t))) rfl ?_
  have zr0 : Zr UZ_X9_init_0 (wr vX9_init_0_0 (qX9_init_0_0 t)) 1 := Zr.z0 rfl rfl rfl rfl
  have rn0 : Rn (wr vX9_init_0_0 (qX9_init_0_0 t)) [0] := Rn.z9 rfl
  refine r_aload_n (pc' := 1) hx0 (hd 0) rfl 0 rfl rfl ?_
  refine q_objI hx0 (hd 1) mlI_9_3 ob_in ob_cd ⟨Nat.le_of_ble_eq_true rfl, Nat.le_of_ble_eq_true rfl⟩ (Nat.le_of_ble_eq_true rfl) ?_
  refine r_pcA (pc' := 4) rfl ?_
  refine r_aload_n (pc' := 5) hx0 (hd 2) rfl 0 rfl rfl ?_
  refine r_sipush (pc' := 8) (v := 800) hx0 (hd 3) (by decide) rfl ?_
  refine q_newa (gn := 0) (G := gX9_init_0_0) (K := 0) (N := 0) (kd := 23) (c := 0) (n := 800) (o := 1) (ty := .int) (e9 := .inl (fun _ => 0)) rfl hb hz (by decide) (by rw [hsz]; exact (by omega : t + 1 + 0 = t + 1)) hx0 (hd 4) rfl ar_int rfl (fun _ _ h => h) (by decide) (by decide) (by decide) (by rw [hR.1]; decide) (by rw [hR.2]; decide) (fun _ => rfl) (ce_dyn (by decide) (zr0 1 (by decide)).1 ((zr0 1 (by decide)).2.2.2.trans rfl)) (nr_put (by decide) (zr0 1 (by decide)).2.2.1) ?_
  have hx1 : Ok _ 1 none _ _ (wg w t gX9_init_0_1) (xat x 1 800) := ok_grow (w' := wg w t gX9_init_0_1) hx0 rfl rfl rfl rfl (lay_wg hL hb (by decide +kernel)) (by rw [hR.1]; decide) (by rw [hR.2]; decide)
  refine z_putR (pc' := 13) (o := 1) (by decide) hx1 (hd 5) hin fw_9_9 (wat_new (G := gX9_init_0_1) (o := 0) (kd := 40 + 9) (n := 0) (by decide +kernel)) rfl (by decide) rfl rfl rfl ?_
  refine z_as (U' := (wr vX9_init_0_1 (qX9_init_0_1 t))) rfl ?_
  have zr1 : Zr UZ_X9_init_0 (wr vX9_init_0_1 (qX9_init_0_1 t)) 2 := Zr.r zr0 (by decide)
  have rn1 : Rn (wr vX9_init_0_1 (qX9_init_0_1 t)) [0] := Rn.r rn0 (by decide)
  refine r_aload_n (pc' := 14) hx1 (hd 6) rfl 0 rfl rfl ?_
  refine r_bipush (pc' := 16) (v := 72) hx1 (hd 7) (by decide) rfl ?_
  refine q_newa (gn := 0) (G := gX9_init_0_1) (K := 1) (N := 800) (kd := 23) (c := 0) (n := 72) (o := 2) (ty := .int) (e9 := .inl (fun _ => 0)) rfl hb hz (by decide) (by rw [hsz]; exact (by omega : t + 1 + 1 = t + 2)) hx1 (hd 8) rfl ar_int rfl (fun _ _ h => h) (by decide) (by decide) (by decide) (by rw [hR.1]; decide) (by rw [hR.2]; decide) (fun _ => rfl) (ce_dyn (by decide) (zr1 2 (by decide)).1 ((zr1 2 (by decide)).2.2.2.trans rfl)) (nr_put (by decide) (zr1 2 (by decide)).2.2.1) ?_
  have hx2 : Ok _ 1 none _ _ (wg w t gX9_init_0_2) (xat x 2 872) := ok_grow (w' := wg w t gX9_init_0_2) hx1 rfl rfl rfl rfl (lay_wg hL hb (by decide +kernel)) (by rw [hR.1]; decide) (by rw [hR.2]; decide)
  refine z_putR (pc' := 21) (o := 2) (by decide) hx2 (hd 9) hin fw_9_15 (wat_new (G := gX9_init_0_2) (o := 0) (kd := 40 + 9) (n := 0) (by decide +kernel)) rfl (by decide) rfl rfl rfl ?_
  refine z_as (U' := (wr vX9_init_0_2 (qX9_init_0_2 t))) rfl ?_
  have zr2 : Zr UZ_X9_init_0 (wr vX9_init_0_2 (qX9_init_0_2 t)) 3 := Zr.r zr1 (by decide)
  have rn2 : Rn (wr vX9_init_0_2 (qX9_init_0_2 t)) [0] := Rn.r rn1 (by decide)
  refine z_done (G := gX9_init_0_2) (G' := G_X9_init_0) (l := [0]) (T := T_X9_init_0) (ci := 9) hb rfl rfl rn2 (by decide +kernel) (by decide +kernel) (fun o ho H => by
    have e9 : o = 0 := by simpa using ho
    subst e9
    exact va_done (S := 3) (ci := 9) (by decide) (by decide) (fun k hk => by
      match k, hk with
      | 0, _ => first | exact trivial | exact rfl
      | 1, _ => first | exact trivial | exact rfl
      | 2, _ => first | exact trivial | exact rfl
      | 3, _ => first | exact trivial | exact rfl
      | 4, _ => first | exact trivial | exact rfl
      | n + 5, h => exact absurd h (by rw [show nf 9 = 5 from rfl]; omega))) rfl ?_
  exact q_vretI (ok_grow (w' := wg w t G_X9_init_0) hx2 rfl rfl rfl rfl (lay_wg hL hb (by decide +kernel)) (by rw [hR.1]; decide) (by rw [hR.2]; decide)) (hd 10)
def UZ_X2_init : Mem := (fun _ _ => 0, fun _ _ => 0, fun _ _ => none, fun _ => 0)
def vX2_init_0 : Mem := UZ_X2_init
def qX2_init_0 (t : Nat) : Nat → Nat → Option Nat := fun _ _ => none
def vX2_init_1 : Mem := vX2_init_0
def qX2_init_1 (t : Nat) : Nat → Nat → Option Nat := up2 (qX2_init_0 t) 0 0 (some (t + 1))
def vX2_init_2 : Mem := vX2_init_1
def qX2_init_2 (t : Nat) : Nat → Nat → Option Nat := up2 (qX2_init_1 t) 0 1 (some (t + 2))
def vX2_init_3 : Mem := vX2_init_2
def qX2_init_3 (t : Nat) : Nat → Nat → Option Nat := up2 (qX2_init_2 t) 0 2 (some (t + 3))
def vX2_init_4 : Mem := vX2_init_3
def qX2_init_4 (t : Nat) : Nat → Nat → Option Nat := up2 (qX2_init_3 t) 0 3 (some (t + 4))
def vX2_init_5 : Mem := vX2_init_4
def qX2_init_5 (t : Nat) : Nat → Nat → Option Nat := up2 (qX2_init_4 t) 0 4 (some (t + 5))
def T_X2_init : Mem := clrR vX2_init_5
def gX2_init_0 : List (Nat × Nat) := [(42, 0)]
def gX2_init_1 : List (Nat × Nat) := gX2_init_0 ++ [(20, 4)]
def gX2_init_2 : List (Nat × Nat) := gX2_init_1 ++ [(20, 13)]
def gX2_init_3 : List (Nat × Nat) := gX2_init_2 ++ [(20, 13)]
def gX2_init_4 : List (Nat × Nat) := gX2_init_3 ++ [(20, 13)]
def gX2_init_5 : List (Nat × Nat) := gX2_init_4 ++ [(20, 32)]
def G_X2_init : List (Nat × Nat) := [(2, 0), (20, 4), (20, 13), (20, 13), (20, 13), (20, 32)]
abbrev yX2_init : MethodName := ({ cls := "CribbageRoom$Four", name := "<init>", desc := "()V" } : Jvm.MethodName)
def tbX2_init : List (Nat × Instr × Nat) := [(0, .aload_n 0, 1), (1, .invokespecial 3, 3), (4, .aload_n 0, 1), (5, .iconst 4, 1), (6, .newarray .int, 2), (8, .putfield 9, 3), (11, .aload_n 0, 1), (12, .bipush 13, 2), (14, .newarray .int, 2), (16, .putfield 15, 3), (19, .aload_n 0, 1), (20, .bipush 13, 2), (22, .newarray .int, 2), (24, .putfield 18, 3), (27, .aload_n 0, 1), (28, .bipush 13, 2), (30, .newarray .int, 2), (32, .putfield 21, 3), (35, .aload_n 0, 1), (36, .bipush 32, 2), (38, .newarray .int, 2), (40, .putfield 24, 3), (43, .return_, 1)]
theorem dX2_init : ∀ q ∈ tbX2_init, decode prog_4_method_1_code q.1 = .ok q.2 := by decide +kernel
set_option maxRecDepth 50000 in
set_option maxHeartbeats 4000000 in
theorem cX2_init (l : Launch) (w : WX) (t : Nat) (hb : Bel w t) (hz : wz w ≤ t) (hL : Lay w) (M : Mem) : CtI l w t 2 yX2_init prog_4_method_1_code 1 1 20 5 75 [.ref t] (put M t 6 UZ_X2_init) G_X2_init (put M t 6 T_X2_init) := by
  refine ctI_of (by decide) rfl (Nat.le_of_ble_eq_true rfl) (fun x hl hsz hR hin hx0 hb9 => ?_)
  subst hl
  have hd : ∀ i, DAt (xc x).code (tbX2_init[i]?) := fun i => by rw [hb9]; exact dat_of dX2_init i
  show C (xat x 0 0) (wg w t gX2_init_0) (Qi x w t G_X2_init (put M t 6 T_X2_init) 5 75) 1 0 [(0, .ref t)] [] (put M t 6 UZ_X2_init) (some ())
  refine z_as (U' := (wr vX2_init_0 (qX2_init_0 t))) rfl ?_
  have zr0 : Zr UZ_X2_init (wr vX2_init_0 (qX2_init_0 t)) 1 := Zr.z0 rfl rfl rfl rfl
  have rn0 : Rn (wr vX2_init_0 (qX2_init_0 t)) [0] := Rn.z9 rfl
  refine r_aload_n (pc' := 1) hx0 (hd 0) rfl 0 rfl rfl ?_
  refine q_objI hx0 (hd 1) mlI_2_3 ob_in ob_cd ⟨Nat.le_of_ble_eq_true rfl, Nat.le_of_ble_eq_true rfl⟩ (Nat.le_of_ble_eq_true rfl) ?_
  refine r_pcA (pc' := 4) rfl ?_
  refine r_aload_n (pc' := 5) hx0 (hd 2) rfl 0 rfl rfl ?_
  refine r_iconst (pc' := 6) (v := 4) hx0 (hd 3) (by decide) rfl ?_
  refine q_newa (gn := 4) (G := gX2_init_0) (K := 0) (N := 0) (kd := 20) (c := 0) (n := 4) (o := 1) (ty := .int) (e9 := .inl (fun _ => 0)) rfl hb hz (by decide) (by rw [hsz]; exact (by omega : t + 1 + 0 = t + 1)) hx0 (hd 4) rfl ar_int rfl (fun _ _ h => h) (by decide) (by decide) (by decide) (by rw [hR.1]; decide) (by rw [hR.2]; decide) (fun _ => rfl) (ce_int (by decide) (zr0 1 (by decide)).1) (nr_put (by decide) (zr0 1 (by decide)).2.2.1) ?_
  have hx1 : Ok _ 1 none _ _ (wg w t gX2_init_1) (xat x 1 4) := ok_grow (w' := wg w t gX2_init_1) hx0 rfl rfl rfl rfl (lay_wg hL hb (by decide +kernel)) (by rw [hR.1]; decide) (by rw [hR.2]; decide)
  refine z_putR (pc' := 11) (o := 1) (by decide) hx1 (hd 5) hin fw_2_9 (wat_new (G := gX2_init_1) (o := 0) (kd := 40 + 2) (n := 0) (by decide +kernel)) rfl (by decide) rfl rfl rfl ?_
  refine z_as (U' := (wr vX2_init_1 (qX2_init_1 t))) rfl ?_
  have zr1 : Zr UZ_X2_init (wr vX2_init_1 (qX2_init_1 t)) 2 := Zr.r zr0 (by decide)
  have rn1 : Rn (wr vX2_init_1 (qX2_init_1 t)) [0] := Rn.r rn0 (by decide)
  refine r_aload_n (pc' := 12) hx1 (hd 6) rfl 0 rfl rfl ?_
  refine r_bipush (pc' := 14) (v := 13) hx1 (hd 7) (by decide) rfl ?_
  refine q_newa (gn := 13) (G := gX2_init_1) (K := 1) (N := 4) (kd := 20) (c := 0) (n := 13) (o := 2) (ty := .int) (e9 := .inl (fun _ => 0)) rfl hb hz (by decide) (by rw [hsz]; exact (by omega : t + 1 + 1 = t + 2)) hx1 (hd 8) rfl ar_int rfl (fun _ _ h => h) (by decide) (by decide) (by decide) (by rw [hR.1]; decide) (by rw [hR.2]; decide) (fun _ => rfl) (ce_int (by decide) (zr1 2 (by decide)).1) (nr_put (by decide) (zr1 2 (by decide)).2.2.1) ?_
  have hx2 : Ok _ 1 none _ _ (wg w t gX2_init_2) (xat x 2 17) := ok_grow (w' := wg w t gX2_init_2) hx1 rfl rfl rfl rfl (lay_wg hL hb (by decide +kernel)) (by rw [hR.1]; decide) (by rw [hR.2]; decide)
  refine z_putR (pc' := 19) (o := 2) (by decide) hx2 (hd 9) hin fw_2_15 (wat_new (G := gX2_init_2) (o := 0) (kd := 40 + 2) (n := 0) (by decide +kernel)) rfl (by decide) rfl rfl rfl ?_
  refine z_as (U' := (wr vX2_init_2 (qX2_init_2 t))) rfl ?_
  have zr2 : Zr UZ_X2_init (wr vX2_init_2 (qX2_init_2 t)) 3 := Zr.r zr1 (by decide)
  have rn2 : Rn (wr vX2_init_2 (qX2_init_2 t)) [0] := Rn.r rn1 (by decide)
  refine r_aload_n (pc' := 20) hx2 (hd 10) rfl 0 rfl rfl ?_
  refine r_bipush (pc' := 22) (v := 13) hx2 (hd 11) (by decide) rfl ?_
  refine q_newa (gn := 13) (G := gX2_init_2) (K := 2) (N := 17) (kd := 20) (c := 0) (n := 13) (o := 3) (ty := .int) (e9 := .inl (fun _ => 0)) rfl hb hz (by decide) (by rw [hsz]; exact (by omega : t + 1 + 2 = t + 3)) hx2 (hd 12) rfl ar_int rfl (fun _ _ h => h) (by decide) (by decide) (by decide) (by rw [hR.1]; decide) (by rw [hR.2]; decide) (fun _ => rfl) (ce_int (by decide) (zr2 3 (by decide)).1) (nr_put (by decide) (zr2 3 (by decide)).2.2.1) ?_
  have hx3 : Ok _ 1 none _ _ (wg w t gX2_init_3) (xat x 3 30) := ok_grow (w' := wg w t gX2_init_3) hx2 rfl rfl rfl rfl (lay_wg hL hb (by decide +kernel)) (by rw [hR.1]; decide) (by rw [hR.2]; decide)
  refine z_putR (pc' := 27) (o := 3) (by decide) hx3 (hd 13) hin fw_2_18 (wat_new (G := gX2_init_3) (o := 0) (kd := 40 + 2) (n := 0) (by decide +kernel)) rfl (by decide) rfl rfl rfl ?_
  refine z_as (U' := (wr vX2_init_3 (qX2_init_3 t))) rfl ?_
  have zr3 : Zr UZ_X2_init (wr vX2_init_3 (qX2_init_3 t)) 4 := Zr.r zr2 (by decide)
  have rn3 : Rn (wr vX2_init_3 (qX2_init_3 t)) [0] := Rn.r rn2 (by decide)
  refine r_aload_n (pc' := 28) hx3 (hd 14) rfl 0 rfl rfl ?_
  refine r_bipush (pc' := 30) (v := 13) hx3 (hd 15) (by decide) rfl ?_
  refine q_newa (gn := 13) (G := gX2_init_3) (K := 3) (N := 30) (kd := 20) (c := 0) (n := 13) (o := 4) (ty := .int) (e9 := .inl (fun _ => 0)) rfl hb hz (by decide) (by rw [hsz]; exact (by omega : t + 1 + 3 = t + 4)) hx3 (hd 16) rfl ar_int rfl (fun _ _ h => h) (by decide) (by decide) (by decide) (by rw [hR.1]; decide) (by rw [hR.2]; decide) (fun _ => rfl) (ce_int (by decide) (zr3 4 (by decide)).1) (nr_put (by decide) (zr3 4 (by decide)).2.2.1) ?_
  have hx4 : Ok _ 1 none _ _ (wg w t gX2_init_4) (xat x 4 43) := ok_grow (w' := wg w t gX2_init_4) hx3 rfl rfl rfl rfl (lay_wg hL hb (by decide +kernel)) (by rw [hR.1]; decide) (by rw [hR.2]; decide)
  refine z_putR (pc' := 35) (o := 4) (by decide) hx4 (hd 17) hin fw_2_21 (wat_new (G := gX2_init_4) (o := 0) (kd := 40 + 2) (n := 0) (by decide +kernel)) rfl (by decide) rfl rfl rfl ?_
  refine z_as (U' := (wr vX2_init_4 (qX2_init_4 t))) rfl ?_
  have zr4 : Zr UZ_X2_init (wr vX2_init_4 (qX2_init_4 t)) 5 := Zr.r zr3 (by decide)
  have rn4 : Rn (wr vX2_init_4 (qX2_init_4 t)) [0] := Rn.r rn3 (by decide)
  refine r_aload_n (pc' := 36) hx4 (hd 18) rfl 0 rfl rfl ?_
  refine r_bipush (pc' := 38) (v := 32) hx4 (hd 19) (by decide) rfl ?_
  refine q_newa (gn := 32) (G := gX2_init_4) (K := 4) (N := 43) (kd := 20) (c := 0) (n := 32) (o := 5) (ty := .int) (e9 := .inl (fun _ => 0)) rfl hb hz (by decide) (by rw [hsz]; exact (by omega : t + 1 + 4 = t + 5)) hx4 (hd 20) rfl ar_int rfl (fun _ _ h => h) (by decide) (by decide) (by decide) (by rw [hR.1]; decide) (by rw [hR.2]; decide) (fun _ => rfl) (ce_int (by decide) (zr4 5 (by decide)).1) (nr_put (by decide) (zr4 5 (by decide)).2.2.1) ?_
  have hx5 : Ok _ 1 none _ _ (wg w t gX2_init_5) (xat x 5 75) := ok_grow (w' := wg w t gX2_init_5) hx4 rfl rfl rfl rfl (lay_wg hL hb (by decide +kernel)) (by rw [hR.1]; decide) (by rw [hR.2]; decide)
  refine z_putR (pc' := 43) (o := 5) (by decide) hx5 (hd 21) hin fw_2_24 (wat_new (G := gX2_init_5) (o := 0) (kd := 40 + 2) (n := 0) (by decide +kernel)) rfl (by decide) rfl rfl rfl ?_
  refine z_as (U' := (wr vX2_init_5 (qX2_init_5 t))) rfl ?_
  have zr5 : Zr UZ_X2_init (wr vX2_init_5 (qX2_init_5 t)) 6 := Zr.r zr4 (by decide)
  have rn5 : Rn (wr vX2_init_5 (qX2_init_5 t)) [0] := Rn.r rn4 (by decide)
  refine z_done (G := gX2_init_5) (G' := G_X2_init) (l := [0]) (T := T_X2_init) (ci := 2) hb rfl rfl rn5 (by decide +kernel) (by decide +kernel) (fun o ho H => by
    have e9 : o = 0 := by simpa using ho
    subst e9
    exact va_done (S := 6) (ci := 2) (by decide) (by decide) (fun k hk => by
      match k, hk with
      | 0, _ => first | exact trivial | exact rfl
      | 1, _ => first | exact trivial | exact rfl
      | 2, _ => first | exact trivial | exact rfl
      | 3, _ => first | exact trivial | exact rfl
      | 4, _ => first | exact trivial | exact rfl
      | 5, _ => first | exact trivial | exact rfl
      | 6, _ => first | exact trivial | exact rfl
      | 7, _ => first | exact trivial | exact rfl
      | 8, _ => first | exact trivial | exact rfl
      | 9, _ => first | exact trivial | exact rfl
      | n + 10, h => exact absurd h (by rw [show nf 2 = 10 from rfl]; omega))) rfl ?_
  exact q_vretI (ok_grow (w' := wg w t G_X2_init) hx5 rfl rfl rfl rfl (lay_wg hL hb (by decide +kernel)) (by rw [hR.1]; decide) (by rw [hR.2]; decide)) (hd 22)
def UZ_X3_init : Mem := (fun _ _ => 0, fun _ _ => 0, fun _ _ => none, fun _ => 0)
def vX3_init_0 : Mem := UZ_X3_init
def qX3_init_0 (t : Nat) : Nat → Nat → Option Nat := fun _ _ => none
def vX3_init_1 : Mem := vX3_init_0
def qX3_init_1 (t : Nat) : Nat → Nat → Option Nat := up2 (qX3_init_0 t) 0 0 (some (t + 1))
def vX3_init_2 : Mem := vX3_init_1
def qX3_init_2 (t : Nat) : Nat → Nat → Option Nat := up2 (qX3_init_1 t) 0 1 (some (t + 17))
def vX3_init_3 : Mem := vX3_init_2
def qX3_init_3 (t : Nat) : Nat → Nat → Option Nat := up2 (qX3_init_2 t) 0 2 (some (t + 18))
def T_X3_init : Mem := clrR vX3_init_3
def gX3_init_0 : List (Nat × Nat) := [(43, 0)]
def gX3_init_1 : List (Nat × Nat) := (gX3_init_0 ++ [(34, 15)]) ++ List.replicate 15 (20, 52)
def gX3_init_2 : List (Nat × Nat) := gX3_init_1 ++ [(20, 15)]
def gX3_init_3 : List (Nat × Nat) := gX3_init_2 ++ [(20, 15)]
def G_X3_init : List (Nat × Nat) := [(3, 0), (34, 15), (20, 52), (20, 52), (20, 52), (20, 52), (20, 52), (20, 52), (20, 52), (20, 52), (20, 52), (20, 52), (20, 52), (20, 52), (20, 52), (20, 52), (20, 52), (20, 15), (20, 15)]
abbrev yX3_init : MethodName := ({ cls := "CribbageRoom$Fours", name := "<init>", desc := "()V" } : Jvm.MethodName)
def tbX3_init : List (Nat × Instr × Nat) := [(0, .aload_n 0, 1), (1, .invokespecial 3, 3), (4, .aload_n 0, 1), (5, .bipush 15, 2), (7, .bipush 52, 2), (9, .multianewarray 9 2, 4), (13, .putfield 11, 3), (16, .aload_n 0, 1), (17, .bipush 15, 2), (19, .newarray .int, 2), (21, .putfield 16, 3), (24, .aload_n 0, 1), (25, .bipush 15, 2), (27, .newarray .int, 2), (29, .putfield 20, 3), (32, .return_, 1)]
theorem dX3_init : ∀ q ∈ tbX3_init, decode prog_5_method_1_code q.1 = .ok q.2 := by decide +kernel
set_option maxRecDepth 50000 in
set_option maxHeartbeats 4000000 in
theorem cX3_init (l : Launch) (w : WX) (t : Nat) (hb : Bel w t) (hz : wz w ≤ t) (hL : Lay w) (M : Mem) : CtI l w t 3 yX3_init prog_5_method_1_code 1 1 20 18 825 [.ref t] (put M t 19 UZ_X3_init) G_X3_init (put M t 19 T_X3_init) := by
  refine ctI_of (by decide) rfl (Nat.le_of_ble_eq_true rfl) (fun x hl hsz hR hin hx0 hb9 => ?_)
  subst hl
  have hd : ∀ i, DAt (xc x).code (tbX3_init[i]?) := fun i => by rw [hb9]; exact dat_of dX3_init i
  show C (xat x 0 0) (wg w t gX3_init_0) (Qi x w t G_X3_init (put M t 19 T_X3_init) 18 825) 1 0 [(0, .ref t)] [] (put M t 19 UZ_X3_init) (some ())
  refine z_as (U' := (wr vX3_init_0 (qX3_init_0 t))) rfl ?_
  have zr0 : Zr UZ_X3_init (wr vX3_init_0 (qX3_init_0 t)) 1 := Zr.z0 rfl rfl rfl rfl
  have rn0 : Rn (wr vX3_init_0 (qX3_init_0 t)) [0] := Rn.z9 rfl
  refine r_aload_n (pc' := 1) hx0 (hd 0) rfl 0 rfl rfl ?_
  refine q_objI hx0 (hd 1) mlI_3_3 ob_in ob_cd ⟨Nat.le_of_ble_eq_true rfl, Nat.le_of_ble_eq_true rfl⟩ (Nat.le_of_ble_eq_true rfl) ?_
  refine r_pcA (pc' := 4) rfl ?_
  refine r_aload_n (pc' := 5) hx0 (hd 2) rfl 0 rfl rfl ?_
  refine r_bipush (pc' := 7) (v := 15) hx0 (hd 3) (by decide) rfl ?_
  refine r_bipush (pc' := 9) (v := 52) hx0 (hd 4) (by decide) rfl ?_
  refine q_mna (G := gX3_init_0) (K := 0) (N := 0) (kd := 34) (c := 5) (ck := 0) (n := 15) (k := 52) (o := 1) (ty := .int) (ekd := 20) (e9 := .inl (fun _ => 0)) rfl hb hz (by decide) (by rw [hsz]; exact (by omega : t + 1 + 0 = t + 1)) hx0 (hd 5) cl_3_9 ao_I ar_int rfl rfl (fun _ _ h => h) rfl (by decide) (by decide) (by decide) (by decide) (by decide) (by decide) (by decide) rfl rfl (by rw [hR.1]; decide) (by rw [hR.2]; decide) rfl (fun _ => mn_inint _ _) (fun o9 h9 => mn_ceint (by rw [show (gX3_init_0).length = 1 from rfl]; omega) (zr0 _ (by rw [show (gX3_init_0).length = 1 from rfl]; omega)).1) (fun o9 h9 j => mn_nr (by rw [show (gX3_init_0).length = 1 from rfl]; omega) (zr0 _ (by rw [show (gX3_init_0).length = 1 from rfl]; omega)).2.2.1 j) ?_
  have hx1 : Ok _ 1 none _ _ (wg w t gX3_init_1) (xat x 16 795) := ok_grow (w' := wg w t gX3_init_1) hx0 rfl rfl rfl rfl (lay_wg hL hb (by decide +kernel)) (by rw [hR.1]; decide) (by rw [hR.2]; decide)
  refine z_putR (pc' := 16) (o := 1) (by decide) hx1 (hd 6) hin fw_3_11 (wat_new (G := gX3_init_1) (o := 0) (kd := 40 + 3) (n := 0) (by decide +kernel)) rfl (by decide) rfl rfl rfl ?_
  refine z_as (U' := (wr vX3_init_1 (qX3_init_1 t))) rfl ?_
  have zr1 : Zr UZ_X3_init (wr vX3_init_1 (qX3_init_1 t)) 17 := Zr.r zr0 (by decide)
  have rn1 : Rn (wr vX3_init_1 (qX3_init_1 t)) [0] := Rn.r rn0 (by decide)
  refine r_aload_n (pc' := 17) hx1 (hd 7) rfl 0 rfl rfl ?_
  refine r_bipush (pc' := 19) (v := 15) hx1 (hd 8) (by decide) rfl ?_
  refine q_newa (gn := 15) (G := gX3_init_1) (K := 16) (N := 795) (kd := 20) (c := 0) (n := 15) (o := 17) (ty := .int) (e9 := .inl (fun _ => 0)) rfl hb hz (by decide) (by rw [hsz]; exact (by omega : t + 1 + 16 = t + 17)) hx1 (hd 9) rfl ar_int rfl (fun _ _ h => h) (by decide) (by decide) (by decide) (by rw [hR.1]; decide) (by rw [hR.2]; decide) (fun _ => rfl) (ce_int (by decide) (zr1 17 (by decide)).1) (nr_put (by decide) (zr1 17 (by decide)).2.2.1) ?_
  have hx2 : Ok _ 1 none _ _ (wg w t gX3_init_2) (xat x 17 810) := ok_grow (w' := wg w t gX3_init_2) hx1 rfl rfl rfl rfl (lay_wg hL hb (by decide +kernel)) (by rw [hR.1]; decide) (by rw [hR.2]; decide)
  refine z_putR (pc' := 24) (o := 17) (by decide) hx2 (hd 10) hin fw_3_16 (wat_new (G := gX3_init_2) (o := 0) (kd := 40 + 3) (n := 0) (by decide +kernel)) rfl (by decide) rfl rfl rfl ?_
  refine z_as (U' := (wr vX3_init_2 (qX3_init_2 t))) rfl ?_
  have zr2 : Zr UZ_X3_init (wr vX3_init_2 (qX3_init_2 t)) 18 := Zr.r zr1 (by decide)
  have rn2 : Rn (wr vX3_init_2 (qX3_init_2 t)) [0] := Rn.r rn1 (by decide)
  refine r_aload_n (pc' := 25) hx2 (hd 11) rfl 0 rfl rfl ?_
  refine r_bipush (pc' := 27) (v := 15) hx2 (hd 12) (by decide) rfl ?_
  refine q_newa (gn := 15) (G := gX3_init_2) (K := 17) (N := 810) (kd := 20) (c := 0) (n := 15) (o := 18) (ty := .int) (e9 := .inl (fun _ => 0)) rfl hb hz (by decide) (by rw [hsz]; exact (by omega : t + 1 + 17 = t + 18)) hx2 (hd 13) rfl ar_int rfl (fun _ _ h => h) (by decide) (by decide) (by decide) (by rw [hR.1]; decide) (by rw [hR.2]; decide) (fun _ => rfl) (ce_int (by decide) (zr2 18 (by decide)).1) (nr_put (by decide) (zr2 18 (by decide)).2.2.1) ?_
  have hx3 : Ok _ 1 none _ _ (wg w t gX3_init_3) (xat x 18 825) := ok_grow (w' := wg w t gX3_init_3) hx2 rfl rfl rfl rfl (lay_wg hL hb (by decide +kernel)) (by rw [hR.1]; decide) (by rw [hR.2]; decide)
  refine z_putR (pc' := 32) (o := 18) (by decide) hx3 (hd 14) hin fw_3_20 (wat_new (G := gX3_init_3) (o := 0) (kd := 40 + 3) (n := 0) (by decide +kernel)) rfl (by decide) rfl rfl rfl ?_
  refine z_as (U' := (wr vX3_init_3 (qX3_init_3 t))) rfl ?_
  have zr3 : Zr UZ_X3_init (wr vX3_init_3 (qX3_init_3 t)) 19 := Zr.r zr2 (by decide)
  have rn3 : Rn (wr vX3_init_3 (qX3_init_3 t)) [0] := Rn.r rn2 (by decide)
  refine z_done (G := gX3_init_3) (G' := G_X3_init) (l := [0]) (T := T_X3_init) (ci := 3) hb rfl rfl rn3 (by decide +kernel) (by decide +kernel) (fun o ho H => by
    have e9 : o = 0 := by simpa using ho
    subst e9
    exact va_done (S := 19) (ci := 3) (by decide) (by decide) (fun k hk => by
      match k, hk with
      | 0, _ => first | exact trivial | exact rfl
      | 1, _ => first | exact trivial | exact rfl
      | 2, _ => first | exact trivial | exact rfl
      | 3, _ => first | exact trivial | exact rfl
      | n + 4, h => exact absurd h (by rw [show nf 3 = 4 from rfl]; omega))) rfl ?_
  exact q_vretI (ok_grow (w' := wg w t G_X3_init) hx3 rfl rfl rfl rfl (lay_wg hL hb (by decide +kernel)) (by rw [hR.1]; decide) (by rw [hR.2]; decide)) (hd 15)
def UZ_X0_init : Mem := (fun _ _ => 0, fun _ _ => 0, fun _ _ => none, fun _ => 0)
def vX0_init_0 : Mem := UZ_X0_init
def qX0_init_0 (t : Nat) : Nat → Nat → Option Nat := fun _ _ => none
def vX0_init_1 : Mem := vX0_init_0
def qX0_init_1 (t : Nat) : Nat → Nat → Option Nat := up2 (qX0_init_0 t) 0 0 (some (t + 1))
def vX0_init_2 : Mem := vX0_init_1
def qX0_init_2 (t : Nat) : Nat → Nat → Option Nat := up2 (qX0_init_1 t) 0 1 (some (t + 6))
def vX0_init_3 : Mem := vX0_init_2
def qX0_init_3 (t : Nat) : Nat → Nat → Option Nat := up2 (qX0_init_2 t) 0 2 (some (t + 7))
def vX0_init_4 : Mem := vX0_init_3
def qX0_init_4 (t : Nat) : Nat → Nat → Option Nat := up2 (qX0_init_3 t) 0 3 (some (t + 8))
def T_X0_init : Mem := clrR vX0_init_4
def gX0_init_0 : List (Nat × Nat) := [(40, 0)]
def gX0_init_1 : List (Nat × Nat) := (gX0_init_0 ++ [(35, 4)]) ++ List.replicate 4 (21, 32)
def gX0_init_2 : List (Nat × Nat) := gX0_init_1 ++ [(20, 13)]
def gX0_init_3 : List (Nat × Nat) := gX0_init_2 ++ [(20, 4)]
def gX0_init_4 : List (Nat × Nat) := gX0_init_3 ++ [(20, 13)]
def G_X0_init : List (Nat × Nat) := [(0, 0), (35, 4), (21, 32), (21, 32), (21, 32), (21, 32), (20, 13), (20, 4), (20, 13)]
abbrev yX0_init : MethodName := ({ cls := "CribbageRoom$CribSum", name := "<init>", desc := "()V" } : Jvm.MethodName)
def tbX0_init : List (Nat × Instr × Nat) := [(0, .aload_n 0, 1), (1, .invokespecial 3, 3), (4, .aload_n 0, 1), (5, .iconst 4, 1), (6, .bipush 32, 2), (8, .multianewarray 9 2, 4), (12, .putfield 11, 3), (15, .aload_n 0, 1), (16, .bipush 13, 2), (18, .newarray .int, 2), (20, .putfield 16, 3), (23, .aload_n 0, 1), (24, .iconst 4, 1), (25, .newarray .int, 2), (27, .putfield 20, 3), (30, .aload_n 0, 1), (31, .bipush 13, 2), (33, .newarray .int, 2), (35, .putfield 23, 3), (38, .return_, 1)]
theorem dX0_init : ∀ q ∈ tbX0_init, decode prog_2_method_1_code q.1 = .ok q.2 := by decide +kernel
set_option maxRecDepth 50000 in
set_option maxHeartbeats 4000000 in
theorem cX0_init (l : Launch) (w : WX) (t : Nat) (hb : Bel w t) (hz : wz w ≤ t) (hL : Lay w) (M : Mem) : CtI l w t 0 yX0_init prog_2_method_1_code 1 1 20 8 162 [.ref t] (put M t 9 UZ_X0_init) G_X0_init (put M t 9 T_X0_init) := by
  refine ctI_of (by decide) rfl (Nat.le_of_ble_eq_true rfl) (fun x hl hsz hR hin hx0 hb9 => ?_)
  subst hl
  have hd : ∀ i, DAt (xc x).code (tbX0_init[i]?) := fun i => by rw [hb9]; exact dat_of dX0_init i
  show C (xat x 0 0) (wg w t gX0_init_0) (Qi x w t G_X0_init (put M t 9 T_X0_init) 8 162) 1 0 [(0, .ref t)] [] (put M t 9 UZ_X0_init) (some ())
  refine z_as (U' := (wr vX0_init_0 (qX0_init_0 t))) rfl ?_
  have zr0 : Zr UZ_X0_init (wr vX0_init_0 (qX0_init_0 t)) 1 := Zr.z0 rfl rfl rfl rfl
  have rn0 : Rn (wr vX0_init_0 (qX0_init_0 t)) [0] := Rn.z9 rfl
  refine r_aload_n (pc' := 1) hx0 (hd 0) rfl 0 rfl rfl ?_
  refine q_objI hx0 (hd 1) mlI_0_3 ob_in ob_cd ⟨Nat.le_of_ble_eq_true rfl, Nat.le_of_ble_eq_true rfl⟩ (Nat.le_of_ble_eq_true rfl) ?_
  refine r_pcA (pc' := 4) rfl ?_
  refine r_aload_n (pc' := 5) hx0 (hd 2) rfl 0 rfl rfl ?_
  refine r_iconst (pc' := 6) (v := 4) hx0 (hd 3) (by decide) rfl ?_
  refine r_bipush (pc' := 8) (v := 32) hx0 (hd 4) (by decide) rfl ?_
  refine q_mna (G := gX0_init_0) (K := 0) (N := 0) (kd := 35) (c := 6) (ck := 1) (n := 4) (k := 32) (o := 1) (ty := .long) (ekd := 21) (e9 := .inr (.inl (fun _ => 0))) rfl hb hz (by decide) (by rw [hsz]; exact (by omega : t + 1 + 0 = t + 1)) hx0 (hd 5) cl_0_9 ao_J ar_long rfl rfl (fun _ _ h => h) rfl (by decide) (by decide) (by decide) (by decide) (by decide) (by decide) (by decide) rfl rfl (by rw [hR.1]; decide) (by rw [hR.2]; decide) rfl (fun _ => mn_inlong _ _) (fun o9 h9 => mn_celong (by rw [show (gX0_init_0).length = 1 from rfl]; omega) (zr0 _ (by rw [show (gX0_init_0).length = 1 from rfl]; omega)).2.1) (fun o9 h9 j => mn_nr (by rw [show (gX0_init_0).length = 1 from rfl]; omega) (zr0 _ (by rw [show (gX0_init_0).length = 1 from rfl]; omega)).2.2.1 j) ?_
  have hx1 : Ok _ 1 none _ _ (wg w t gX0_init_1) (xat x 5 132) := ok_grow (w' := wg w t gX0_init_1) hx0 rfl rfl rfl rfl (lay_wg hL hb (by decide +kernel)) (by rw [hR.1]; decide) (by rw [hR.2]; decide)
  refine z_putR (pc' := 15) (o := 1) (by decide) hx1 (hd 6) hin fw_0_11 (wat_new (G := gX0_init_1) (o := 0) (kd := 40 + 0) (n := 0) (by decide +kernel)) rfl (by decide) rfl rfl rfl ?_
  refine z_as (U' := (wr vX0_init_1 (qX0_init_1 t))) rfl ?_
  have zr1 : Zr UZ_X0_init (wr vX0_init_1 (qX0_init_1 t)) 6 := Zr.r zr0 (by decide)
  have rn1 : Rn (wr vX0_init_1 (qX0_init_1 t)) [0] := Rn.r rn0 (by decide)
  refine r_aload_n (pc' := 16) hx1 (hd 7) rfl 0 rfl rfl ?_
  refine r_bipush (pc' := 18) (v := 13) hx1 (hd 8) (by decide) rfl ?_
  refine q_newa (gn := 13) (G := gX0_init_1) (K := 5) (N := 132) (kd := 20) (c := 0) (n := 13) (o := 6) (ty := .int) (e9 := .inl (fun _ => 0)) rfl hb hz (by decide) (by rw [hsz]; exact (by omega : t + 1 + 5 = t + 6)) hx1 (hd 9) rfl ar_int rfl (fun _ _ h => h) (by decide) (by decide) (by decide) (by rw [hR.1]; decide) (by rw [hR.2]; decide) (fun _ => rfl) (ce_int (by decide) (zr1 6 (by decide)).1) (nr_put (by decide) (zr1 6 (by decide)).2.2.1) ?_
  have hx2 : Ok _ 1 none _ _ (wg w t gX0_init_2) (xat x 6 145) := ok_grow (w' := wg w t gX0_init_2) hx1 rfl rfl rfl rfl (lay_wg hL hb (by decide +kernel)) (by rw [hR.1]; decide) (by rw [hR.2]; decide)
  refine z_putR (pc' := 23) (o := 6) (by decide) hx2 (hd 10) hin fw_0_16 (wat_new (G := gX0_init_2) (o := 0) (kd := 40 + 0) (n := 0) (by decide +kernel)) rfl (by decide) rfl rfl rfl ?_
  refine z_as (U' := (wr vX0_init_2 (qX0_init_2 t))) rfl ?_
  have zr2 : Zr UZ_X0_init (wr vX0_init_2 (qX0_init_2 t)) 7 := Zr.r zr1 (by decide)
  have rn2 : Rn (wr vX0_init_2 (qX0_init_2 t)) [0] := Rn.r rn1 (by decide)
  refine r_aload_n (pc' := 24) hx2 (hd 11) rfl 0 rfl rfl ?_
  refine r_iconst (pc' := 25) (v := 4) hx2 (hd 12) (by decide) rfl ?_
  refine q_newa (gn := 4) (G := gX0_init_2) (K := 6) (N := 145) (kd := 20) (c := 0) (n := 4) (o := 7) (ty := .int) (e9 := .inl (fun _ => 0)) rfl hb hz (by decide) (by rw [hsz]; exact (by omega : t + 1 + 6 = t + 7)) hx2 (hd 13) rfl ar_int rfl (fun _ _ h => h) (by decide) (by decide) (by decide) (by rw [hR.1]; decide) (by rw [hR.2]; decide) (fun _ => rfl) (ce_int (by decide) (zr2 7 (by decide)).1) (nr_put (by decide) (zr2 7 (by decide)).2.2.1) ?_
  have hx3 : Ok _ 1 none _ _ (wg w t gX0_init_3) (xat x 7 149) := ok_grow (w' := wg w t gX0_init_3) hx2 rfl rfl rfl rfl (lay_wg hL hb (by decide +kernel)) (by rw [hR.1]; decide) (by rw [hR.2]; decide)
  refine z_putR (pc' := 30) (o := 7) (by decide) hx3 (hd 14) hin fw_0_20 (wat_new (G := gX0_init_3) (o := 0) (kd := 40 + 0) (n := 0) (by decide +kernel)) rfl (by decide) rfl rfl rfl ?_
  refine z_as (U' := (wr vX0_init_3 (qX0_init_3 t))) rfl ?_
  have zr3 : Zr UZ_X0_init (wr vX0_init_3 (qX0_init_3 t)) 8 := Zr.r zr2 (by decide)
  have rn3 : Rn (wr vX0_init_3 (qX0_init_3 t)) [0] := Rn.r rn2 (by decide)
  refine r_aload_n (pc' := 31) hx3 (hd 15) rfl 0 rfl rfl ?_
  refine r_bipush (pc' := 33) (v := 13) hx3 (hd 16) (by decide) rfl ?_
  refine q_newa (gn := 13) (G := gX0_init_3) (K := 7) (N := 149) (kd := 20) (c := 0) (n := 13) (o := 8) (ty := .int) (e9 := .inl (fun _ => 0)) rfl hb hz (by decide) (by rw [hsz]; exact (by omega : t + 1 + 7 = t + 8)) hx3 (hd 17) rfl ar_int rfl (fun _ _ h => h) (by decide) (by decide) (by decide) (by rw [hR.1]; decide) (by rw [hR.2]; decide) (fun _ => rfl) (ce_int (by decide) (zr3 8 (by decide)).1) (nr_put (by decide) (zr3 8 (by decide)).2.2.1) ?_
  have hx4 : Ok _ 1 none _ _ (wg w t gX0_init_4) (xat x 8 162) := ok_grow (w' := wg w t gX0_init_4) hx3 rfl rfl rfl rfl (lay_wg hL hb (by decide +kernel)) (by rw [hR.1]; decide) (by rw [hR.2]; decide)
  refine z_putR (pc' := 38) (o := 8) (by decide) hx4 (hd 18) hin fw_0_23 (wat_new (G := gX0_init_4) (o := 0) (kd := 40 + 0) (n := 0) (by decide +kernel)) rfl (by decide) rfl rfl rfl ?_
  refine z_as (U' := (wr vX0_init_4 (qX0_init_4 t))) rfl ?_
  have zr4 : Zr UZ_X0_init (wr vX0_init_4 (qX0_init_4 t)) 9 := Zr.r zr3 (by decide)
  have rn4 : Rn (wr vX0_init_4 (qX0_init_4 t)) [0] := Rn.r rn3 (by decide)
  refine z_done (G := gX0_init_4) (G' := G_X0_init) (l := [0]) (T := T_X0_init) (ci := 0) hb rfl rfl rn4 (by decide +kernel) (by decide +kernel) (fun o ho H => by
    have e9 : o = 0 := by simpa using ho
    subst e9
    exact va_done (S := 9) (ci := 0) (by decide) (by decide) (fun k hk => by
      match k, hk with
      | 0, _ => first | exact trivial | exact rfl
      | 1, _ => first | exact trivial | exact rfl
      | 2, _ => first | exact trivial | exact rfl
      | 3, _ => first | exact trivial | exact rfl
      | 4, _ => first | exact trivial | exact rfl
      | 5, _ => first | exact trivial | exact rfl
      | 6, _ => first | exact trivial | exact rfl
      | 7, _ => first | exact trivial | exact rfl
      | n + 8, h => exact absurd h (by rw [show nf 0 = 8 from rfl]; omega))) rfl ?_
  exact q_vretI (ok_grow (w' := wg w t G_X0_init) hx4 rfl rfl rfl rfl (lay_wg hL hb (by decide +kernel)) (by rw [hR.1]; decide) (by rw [hR.2]; decide)) (hd 19)
def UZ_X10_init : Mem := (fun _ _ => 0, fun _ _ => 0, fun _ _ => none, fun _ => 0)
def vX10_init_0 : Mem := UZ_X10_init
def qX10_init_0 (t : Nat) : Nat → Nat → Option Nat := fun _ _ => none
def vX10_init_1 : Mem := put vX10_init_0 1 3 T_X7_init
def qX10_init_1 (t : Nat) : Nat → Nat → Option Nat := fun a => if 1 ≤ a ∧ a < 1 + 3 then T_X7_init.2.2.1 (a - 1) else (qX10_init_0 t) a
def vX10_init_2 : Mem := vX10_init_1
def qX10_init_2 (t : Nat) : Nat → Nat → Option Nat := up2 (qX10_init_1 t) 0 0 (some (t + 1))
def vX10_init_3 : Mem := vX10_init_2
def qX10_init_3 (t : Nat) : Nat → Nat → Option Nat := up2 (qX10_init_2 t) 0 1 (some (t + 4))
def vX10_init_4 : Mem := vX10_init_3
def qX10_init_4 (t : Nat) : Nat → Nat → Option Nat := up2 (qX10_init_3 t) 0 2 (some (t + 5))
def T_X10_init : Mem := clrR vX10_init_4
def gX10_init_0 : List (Nat × Nat) := [(50, 0)]
def gX10_init_1 : List (Nat × Nat) := gX10_init_0 ++ [(47, 0)]
def gX10_init_2 : List (Nat × Nat) := gX10_init_0 ++ G_X7_init
def gX10_init_3 : List (Nat × Nat) := gX10_init_2 ++ [(20, 52)]
def gX10_init_4 : List (Nat × Nat) := (gX10_init_3 ++ [(33, 6)]) ++ List.replicate 6 (20, 39)
def G_X10_init : List (Nat × Nat) := [(10, 0), (7, 0), (20, 19), (21, 32), (20, 52), (33, 6), (20, 39), (20, 39), (20, 39), (20, 39), (20, 39), (20, 39)]
abbrev yX10_init : MethodName := ({ cls := "CribbageRoom$Worth", name := "<init>", desc := "()V" } : Jvm.MethodName)
def tbX10_init : List (Nat × Instr × Nat) := [(0, .aload_n 0, 1), (1, .invokespecial 3, 3), (4, .aload_n 0, 1), (5, .new 9, 3), (8, .dup, 1), (9, .invokespecial 11, 3), (12, .putfield 12, 3), (15, .aload_n 0, 1), (16, .bipush 52, 2), (18, .newarray .int, 2), (20, .putfield 18, 3), (23, .aload_n 0, 1), (24, .bipush 6, 2), (26, .bipush 39, 2), (28, .multianewarray 22 2, 4), (32, .putfield 24, 3), (35, .return_, 1)]
theorem dX10_init : ∀ q ∈ tbX10_init, decode prog_12_method_1_code q.1 = .ok q.2 := by decide +kernel
set_option maxRecDepth 50000 in
set_option maxHeartbeats 4000000 in
theorem cX10_init (l : Launch) (w : WX) (t : Nat) (hb : Bel w t) (hz : wz w ≤ t) (hL : Lay w) (M : Mem) : CtI l w t 10 yX10_init prog_12_method_1_code 1 2 40 11 349 [.ref t] (put M t 12 UZ_X10_init) G_X10_init (put M t 12 T_X10_init) := by
  refine ctI_of (by decide) rfl (Nat.le_of_ble_eq_true rfl) (fun x hl hsz hR hin hx0 hb9 => ?_)
  subst hl
  have hd : ∀ i, DAt (xc x).code (tbX10_init[i]?) := fun i => by rw [hb9]; exact dat_of dX10_init i
  show C (xat x 0 0) (wg w t gX10_init_0) (Qi x w t G_X10_init (put M t 12 T_X10_init) 11 349) 1 0 [(0, .ref t)] [] (put M t 12 UZ_X10_init) (some ())
  refine z_as (U' := (wr vX10_init_0 (qX10_init_0 t))) rfl ?_
  have zr0 : Zr UZ_X10_init (wr vX10_init_0 (qX10_init_0 t)) 1 := Zr.z0 rfl rfl rfl rfl
  have rn0 : Rn (wr vX10_init_0 (qX10_init_0 t)) [0] := Rn.z9 rfl
  refine r_aload_n (pc' := 1) hx0 (hd 0) rfl 0 rfl rfl ?_
  refine q_objI hx0 (hd 1) mlI_10_3 ob_in ob_cd ⟨Nat.le_of_ble_eq_true rfl, Nat.le_of_ble_eq_true rfl⟩ (Nat.le_of_ble_eq_true rfl) ?_
  refine r_pcA (pc' := 4) rfl ?_
  refine r_aload_n (pc' := 5) hx0 (hd 2) rfl 0 rfl rfl ?_
  refine q_newO (G := gX10_init_0) (K := 0) (N := 0) (ci := 7) (o := 1) tyX7 rfl hb hz (by decide) (by rw [hsz]; exact (by omega : t + 1 + 0 = t + 1)) hx0 (hd 3) rfl inX7 tyX7_ok cl_10_9 ins_7 ini_7 (by decide) (by rw [hR.1]; decide) (by rw [hR.2]; decide) ((put_at (by decide)).1.trans (zr0 1 (by decide)).1) ((put_at (by decide)).2.1.trans (zr0 1 (by decide)).2.1) ((put_at (by decide)).2.2.1.trans (zr0 1 (by decide)).2.2.1) dvX7 ?_
  have hx1 : Ok _ 1 none _ _ (wg w t gX10_init_1) (xat x 1 6) := ok_grow (w' := wg w t gX10_init_1) hx0 rfl rfl rfl rfl (lay_wg hL hb (by decide +kernel)) (by rw [hR.1]; decide) (by rw [hR.2]; decide)
  refine r_dup (pc' := 9) hx1 (hd 4) rfl rfl ?_
  refine z_pre (G0 := gX10_init_0) (o := 1) (s := 3) (U0 := UZ_X7_init) hb rfl (by decide) ((zr0 1 (by decide)).1.trans rfl) ((zr0 1 (by decide)).2.1.trans rfl) ((zr0 1 (by decide)).2.2.1.trans rfl) ((zr0 1 (by decide)).2.2.2.trans rfl) ?_
  refine q_callIN (G0 := gX10_init_0) (K := 1) (N := 6) (ci := 7) (o := 1) (As := []) (rest := [.ref (t + 1), .ref t]) rfl hb (by rw [hsz]; exact (by omega : t + 1 + 1 = t + 2)) hx1 (hd 5) mdI_X7_init rfl miI_X7_init mlI_10_11 (cX7_init (xl x) (wg w t gX10_init_0) (t + 1) (show Bel (wg w t gX10_init_0) (t + 1) from bel_wg hb) (Nat.le_trans hz (Nat.le_add_right _ _)) (lay_wg hL hb (by decide +kernel)) _) ⟨Nat.le_of_ble_eq_true rfl, Nat.le_of_ble_eq_true rfl⟩ (by rw [hR.1]; decide) (by rw [hR.2]; decide) rfl rfl (Nat.le_of_ble_eq_true rfl) ?_
  refine r_pcA (pc' := 12) rfl ?_
  refine z_post (by decide) ?_
  refine z_as (U' := (wr vX10_init_1 (qX10_init_1 t))) rfl ?_
  have zr1 : Zr UZ_X10_init (wr vX10_init_1 (qX10_init_1 t)) 4 := Zr.p zr0 (by decide) (by decide)
  have rn1 : Rn (wr vX10_init_1 (qX10_init_1 t)) [0] := Rn.p rn0 Rn.c
  have hx2 : Ok _ 1 none _ _ (wg w t gX10_init_2) (xat x 3 57) := ok_grow (w' := wg w t gX10_init_2) hx1 rfl rfl rfl rfl (lay_wg hL hb (by decide +kernel)) (by rw [hR.1]; decide) (by rw [hR.2]; decide)
  refine z_putR (pc' := 15) (o := 1) (by decide) hx2 (hd 6) hin fw_10_12 (wat_new (G := gX10_init_2) (o := 0) (kd := 40 + 10) (n := 0) (by decide +kernel)) rfl (by decide) rfl rfl rfl ?_
  refine z_as (U' := (wr vX10_init_2 (qX10_init_2 t))) rfl ?_
  have zr2 : Zr UZ_X10_init (wr vX10_init_2 (qX10_init_2 t)) 4 := Zr.r zr1 (by decide)
  have rn2 : Rn (wr vX10_init_2 (qX10_init_2 t)) [0] := Rn.r rn1 (by decide)
  refine r_aload_n (pc' := 16) hx2 (hd 7) rfl 0 rfl rfl ?_
  refine r_bipush (pc' := 18) (v := 52) hx2 (hd 8) (by decide) rfl ?_
  refine q_newa (gn := 52) (G := gX10_init_2) (K := 3) (N := 57) (kd := 20) (c := 0) (n := 52) (o := 4) (ty := .int) (e9 := .inl (fun _ => 0)) rfl hb hz (by decide) (by rw [hsz]; exact (by omega : t + 1 + 3 = t + 4)) hx2 (hd 9) rfl ar_int rfl (fun _ _ h => h) (by decide) (by decide) (by decide) (by rw [hR.1]; decide) (by rw [hR.2]; decide) (fun _ => rfl) (ce_int (by decide) (zr2 4 (by decide)).1) (nr_put (by decide) (zr2 4 (by decide)).2.2.1) ?_
  have hx3 : Ok _ 1 none _ _ (wg w t gX10_init_3) (xat x 4 109) := ok_grow (w' := wg w t gX10_init_3) hx2 rfl rfl rfl rfl (lay_wg hL hb (by decide +kernel)) (by rw [hR.1]; decide) (by rw [hR.2]; decide)
  refine z_putR (pc' := 23) (o := 4) (by decide) hx3 (hd 10) hin fw_10_18 (wat_new (G := gX10_init_3) (o := 0) (kd := 40 + 10) (n := 0) (by decide +kernel)) rfl (by decide) rfl rfl rfl ?_
  refine z_as (U' := (wr vX10_init_3 (qX10_init_3 t))) rfl ?_
  have zr3 : Zr UZ_X10_init (wr vX10_init_3 (qX10_init_3 t)) 5 := Zr.r zr2 (by decide)
  have rn3 : Rn (wr vX10_init_3 (qX10_init_3 t)) [0] := Rn.r rn2 (by decide)
  refine r_aload_n (pc' := 24) hx3 (hd 11) rfl 0 rfl rfl ?_
  refine r_bipush (pc' := 26) (v := 6) hx3 (hd 12) (by decide) rfl ?_
  refine r_bipush (pc' := 28) (v := 39) hx3 (hd 13) (by decide) rfl ?_
  refine q_mna (G := gX10_init_3) (K := 4) (N := 109) (kd := 33) (c := 5) (ck := 0) (n := 6) (k := 39) (o := 5) (ty := .int) (ekd := 20) (e9 := .inl (fun _ => 0)) rfl hb hz (by decide) (by rw [hsz]; exact (by omega : t + 1 + 4 = t + 5)) hx3 (hd 14) cl_10_22 ao_I ar_int rfl rfl (fun _ _ h => h) rfl (by decide) (by decide) (by decide) (by decide) (by decide) (by decide) (by decide) rfl rfl (by rw [hR.1]; decide) (by rw [hR.2]; decide) rfl (fun _ => mn_inint _ _) (fun o9 h9 => mn_ceint (by rw [show (gX10_init_3).length = 5 from rfl]; omega) (zr3 _ (by rw [show (gX10_init_3).length = 5 from rfl]; omega)).1) (fun o9 h9 j => mn_nr (by rw [show (gX10_init_3).length = 5 from rfl]; omega) (zr3 _ (by rw [show (gX10_init_3).length = 5 from rfl]; omega)).2.2.1 j) ?_
  have hx4 : Ok _ 1 none _ _ (wg w t gX10_init_4) (xat x 11 349) := ok_grow (w' := wg w t gX10_init_4) hx3 rfl rfl rfl rfl (lay_wg hL hb (by decide +kernel)) (by rw [hR.1]; decide) (by rw [hR.2]; decide)
  refine z_putR (pc' := 35) (o := 5) (by decide) hx4 (hd 15) hin fw_10_24 (wat_new (G := gX10_init_4) (o := 0) (kd := 40 + 10) (n := 0) (by decide +kernel)) rfl (by decide) rfl rfl rfl ?_
  refine z_as (U' := (wr vX10_init_4 (qX10_init_4 t))) rfl ?_
  have zr4 : Zr UZ_X10_init (wr vX10_init_4 (qX10_init_4 t)) 12 := Zr.r zr3 (by decide)
  have rn4 : Rn (wr vX10_init_4 (qX10_init_4 t)) [0] := Rn.r rn3 (by decide)
  refine z_done (G := gX10_init_4) (G' := G_X10_init) (l := [0]) (T := T_X10_init) (ci := 10) hb rfl rfl rn4 (by decide +kernel) (by decide +kernel) (fun o ho H => by
    have e9 : o = 0 := by simpa using ho
    subst e9
    exact va_done (S := 12) (ci := 10) (by decide) (by decide) (fun k hk => by
      match k, hk with
      | 0, _ => first | exact trivial | exact rfl
      | 1, _ => first | exact trivial | exact rfl
      | 2, _ => first | exact trivial | exact rfl
      | 3, _ => first | exact trivial | exact rfl
      | 4, _ => first | exact trivial | exact rfl
      | 5, _ => first | exact trivial | exact rfl
      | 6, _ => first | exact trivial | exact rfl
      | 7, _ => first | exact trivial | exact rfl
      | 8, _ => first | exact trivial | exact rfl
      | n + 9, h => exact absurd h (by rw [show nf 10 = 9 from rfl]; omega))) rfl ?_
  exact q_vretI (ok_grow (w' := wg w t G_X10_init) hx4 rfl rfl rfl rfl (lay_wg hL hb (by decide +kernel)) (by rw [hR.1]; decide) (by rw [hR.2]; decide)) (hd 16)
