def qX8_init_0 (t : Nat) : Nat → Nat → Option Nat := fun _ _ => none
def qX8_init_1 (t : Nat) : Nat → Nat → Option Nat := up2 (qX8_init_0 t) 0 0 (some (t + 1))
def qX8_init_2 (t : Nat) : Nat → Nat → Option Nat := up2 (qX8_init_1 t) 0 1 (some (t + 2))
def qX8_init_3 (t : Nat) : Nat → Nat → Option Nat := up2 (qX8_init_2 t) 0 2 (some (t + 3))
def qX8_init_4 (t : Nat) : Nat → Nat → Option Nat := (qX8_init_3 t)
def qX8_init_5 (t : Nat) : Nat → Nat → Option Nat := (qX8_init_4 t)
def qX8_init_6 (t : Nat) : Nat → Nat → Option Nat := (qX8_init_5 t)
def qX8_init_7 (t : Nat) : Nat → Nat → Option Nat := (qX8_init_6 t)
def qX8_init_8 (t : Nat) : Nat → Nat → Option Nat := (qX8_init_7 t)
def gX8_init_0 : List (Nat × Nat) := [(48, 0)]
def gX8_init_1 : List (Nat × Nat) := gX8_init_0 ++ [(21, 2)]
def gX8_init_2 : List (Nat × Nat) := gX8_init_1 ++ [(20, 2)]
def gX8_init_3 : List (Nat × Nat) := gX8_init_2 ++ [(20, 8)]
def G_X8_init : List (Nat × Nat) := [(8, 0), (21, 2), (20, 2), (20, 8)]
abbrev yX8_init : MethodName := ({ cls := "CribbageRoom$Table", name := "<init>", desc := "()V" } : Jvm.MethodName)
def tbX8_init : List (Nat × Instr × Nat) := [(0, .aload_n 0, 1), (1, .invokespecial 3, 3), (4, .aload_n 0, 1), (5, .iconst 2, 1), (6, .newarray .long, 2), (8, .putfield 9, 3), (11, .aload_n 0, 1), (12, .iconst 2, 1), (13, .newarray .int, 2), (15, .putfield 15, 3), (18, .aload_n 0, 1), (19, .bipush 8, 2), (21, .newarray .int, 2), (23, .putfield 19, 3), (26, .aload_n 0, 1), (27, .iconst 0, 1), (28, .putfield 22, 3), (31, .aload_n 0, 1), (32, .iconst 1, 1), (33, .putfield 26, 3), (36, .aload_n 0, 1), (37, .iconst (-1), 1), (38, .putfield 29, 3), (41, .aload_n 0, 1), (42, .iconst (-1), 1), (43, .putfield 32, 3), (46, .aload_n 0, 1), (47, .iconst (-1), 1), (48, .putfield 35, 3), (51, .return_, 1)]
theorem dX8_init : ∀ q ∈ tbX8_init, decode prog_10_method_1_code q.1 = .ok q.2 := by decide +kernel
set_option maxRecDepth 50000 in
set_option maxHeartbeats 4000000 in
theorem cX8_init (l : Launch) (w : WX) (t : Nat) (hb : Bel w t) (hz : wz w ≤ t) (hL : Lay w) (M : Mem) : CtI l w t 8 yX8_init prog_10_method_1_code 1 1 20 3 12 [.ref t] (put M t 4 UZ_X8_init) G_X8_init (put M t 4 T_X8_init) := by
  refine ctI_of (by decide) rfl (Nat.le_of_ble_eq_true rfl) (fun x hl hsz hR hin hx0 hb9 => ?_)
  subst hl
  have hd : ∀ i, DAt (xc x).code (tbX8_init[i]?) := fun i => by rw [hb9]; exact dat_of dX8_init i
  show C (xat x 0 0) (wg w t gX8_init_0) (Qi x w t G_X8_init (put M t 4 T_X8_init) 3 12) 1 0 [(0, .ref t)] [] (put M t 4 UZ_X8_init) (some ())
  refine z_as (U' := (wr vX8_init_0 (qX8_init_0 t))) rfl ?_
  have zr0 : Zr UZ_X8_init (wr vX8_init_0 (qX8_init_0 t)) 1 := Zr.z0 rfl rfl rfl rfl
  have rn0 : Rny (wr vX8_init_0 (qX8_init_0 t)) [0] := Rny.z9 rfl
  refine r_aload_n (pc' := 1) hx0 (hd 0) rfl 0 rfl rfl ?_
  refine q_objI hx0 (hd 1) mlI_8_3 ob_in ob_cd ⟨Nat.le_of_ble_eq_true rfl, Nat.le_of_ble_eq_true rfl⟩ (Nat.le_of_ble_eq_true rfl) ?_
  refine r_pcA (pc' := 4) rfl ?_
  refine r_aload_n (pc' := 5) hx0 (hd 2) rfl 0 rfl rfl ?_
  refine r_iconst (pc' := 6) (v := 2) hx0 (hd 3) (by decide) rfl ?_
  refine q_newa (gn := 2) (G := gX8_init_0) (K := 0) (N := 0) (kd := 21) (c := 1) (n := 2) (o := 1) (ty := .long) (e9 := .inr (.inl (fun _ => 0))) rfl hb hz (by decide) (by rw [hsz]; exact (by omega : t + 1 + 0 = t + 1)) hx0 (hd 4) rfl ar_long rfl (fun _ _ h => h) (by decide) (by decide) (by decide) (by rw [hR.1]; decide) (by rw [hR.2]; decide) (fun _ => rfl) (ce_long (by decide) (zr0 1 (by decide)).2.1) (nr_put (by decide) (zr0 1 (by decide)).2.2.1) ?_
  have hx1 : Ok _ 1 none _ _ (wg w t gX8_init_1) (xat x 1 2) := ok_grow (w' := wg w t gX8_init_1) hx0 rfl rfl rfl rfl (lay_wg hL hb (by decide +kernel)) (by rw [hR.1]; decide) (by rw [hR.2]; decide)
  refine z_putR (pc' := 11) (o := 1) (by decide) hx1 (hd 5) hin fw_8_9 (wat_new (G := gX8_init_1) (o := 0) (kd := 40 + 8) (n := 0) (by decide +kernel)) rfl (by decide) rfl rfl rfl ?_
  refine z_as (U' := (wr vX8_init_1 (qX8_init_1 t))) ((wrR ..).trans rfl) ?_
  have zr1 : Zr UZ_X8_init (wr vX8_init_1 (qX8_init_1 t)) 2 := Zr.cR zr0 (by decide)
  have rn1 : Rny (wr vX8_init_1 (qX8_init_1 t)) [0] := Rny.cR rn0 (by decide)
  refine r_aload_n (pc' := 12) hx1 (hd 6) rfl 0 rfl rfl ?_
  refine r_iconst (pc' := 13) (v := 2) hx1 (hd 7) (by decide) rfl ?_
  refine q_newa (gn := 2) (G := gX8_init_1) (K := 1) (N := 2) (kd := 20) (c := 0) (n := 2) (o := 2) (ty := .int) (e9 := .inl (fun _ => 0)) rfl hb hz (by decide) (by rw [hsz]; exact (by omega : t + 1 + 1 = t + 2)) hx1 (hd 8) rfl ar_int rfl (fun _ _ h => h) (by decide) (by decide) (by decide) (by rw [hR.1]; decide) (by rw [hR.2]; decide) (fun _ => rfl) (ce_int (by decide) (zr1 2 (by decide)).1) (nr_put (by decide) (zr1 2 (by decide)).2.2.1) ?_
  have hx2 : Ok _ 1 none _ _ (wg w t gX8_init_2) (xat x 2 4) := ok_grow (w' := wg w t gX8_init_2) hx1 rfl rfl rfl rfl (lay_wg hL hb (by decide +kernel)) (by rw [hR.1]; decide) (by rw [hR.2]; decide)
  refine z_putR (pc' := 18) (o := 2) (by decide) hx2 (hd 9) hin fw_8_15 (wat_new (G := gX8_init_2) (o := 0) (kd := 40 + 8) (n := 0) (by decide +kernel)) rfl (by decide) rfl rfl rfl ?_
  refine z_as (U' := (wr vX8_init_2 (qX8_init_2 t))) ((wrR ..).trans rfl) ?_
  have zr2 : Zr UZ_X8_init (wr vX8_init_2 (qX8_init_2 t)) 3 := Zr.cR zr1 (by decide)
  have rn2 : Rny (wr vX8_init_2 (qX8_init_2 t)) [0] := Rny.cR rn1 (by decide)
  refine r_aload_n (pc' := 19) hx2 (hd 10) rfl 0 rfl rfl ?_
  refine r_bipush (pc' := 21) (v := 8) hx2 (hd 11) (by decide) rfl ?_
  refine q_newa (gn := 8) (G := gX8_init_2) (K := 2) (N := 4) (kd := 20) (c := 0) (n := 8) (o := 3) (ty := .int) (e9 := .inl (fun _ => 0)) rfl hb hz (by decide) (by rw [hsz]; exact (by omega : t + 1 + 2 = t + 3)) hx2 (hd 12) rfl ar_int rfl (fun _ _ h => h) (by decide) (by decide) (by decide) (by rw [hR.1]; decide) (by rw [hR.2]; decide) (fun _ => rfl) (ce_int (by decide) (zr2 3 (by decide)).1) (nr_put (by decide) (zr2 3 (by decide)).2.2.1) ?_
  have hx3 : Ok _ 1 none _ _ (wg w t gX8_init_3) (xat x 3 12) := ok_grow (w' := wg w t gX8_init_3) hx2 rfl rfl rfl rfl (lay_wg hL hb (by decide +kernel)) (by rw [hR.1]; decide) (by rw [hR.2]; decide)
  refine z_putR (pc' := 26) (o := 3) (by decide) hx3 (hd 13) hin fw_8_19 (wat_new (G := gX8_init_3) (o := 0) (kd := 40 + 8) (n := 0) (by decide +kernel)) rfl (by decide) rfl rfl rfl ?_
  refine z_as (U' := (wr vX8_init_3 (qX8_init_3 t))) ((wrR ..).trans rfl) ?_
  have zr3 : Zr UZ_X8_init (wr vX8_init_3 (qX8_init_3 t)) 4 := Zr.cR zr2 (by decide)
  have rn3 : Rny (wr vX8_init_3 (qX8_init_3 t)) [0] := Rny.cR rn2 (by decide)
  refine r_aload_n (pc' := 27) hx3 (hd 14) rfl 0 rfl rfl ?_
  refine r_iconst (pc' := 28) (v := 0) hx3 (hd 15) (by decide) rfl ?_
  refine z_putI (pc' := 31) (by decide) hx3 (hd 16) hin fw_8_22 (wat_new (G := gX8_init_3) (o := 0) (kd := 40 + 8) (n := 0) (by decide +kernel)) rfl (by decide) rfl rfl rfl ?_
  refine z_as (U' := (wr vX8_init_4 (qX8_init_4 t))) ((wrI ..).trans rfl) ?_
  have zr4 : Zr UZ_X8_init (wr vX8_init_4 (qX8_init_4 t)) 4 := Zr.cI zr3 (by decide)
  have rn4 : Rny (wr vX8_init_4 (qX8_init_4 t)) [0] := Rny.cI rn3
  refine r_aload_n (pc' := 32) hx3 (hd 17) rfl 0 rfl rfl ?_
  refine r_iconst (pc' := 33) (v := 1) hx3 (hd 18) (by decide) rfl ?_
  refine z_putI (pc' := 36) (by decide) hx3 (hd 19) hin fw_8_26 (wat_new (G := gX8_init_3) (o := 0) (kd := 40 + 8) (n := 0) (by decide +kernel)) rfl (by decide) rfl rfl rfl ?_
  refine z_as (U' := (wr vX8_init_5 (qX8_init_5 t))) ((wrI ..).trans rfl) ?_
  have zr5 : Zr UZ_X8_init (wr vX8_init_5 (qX8_init_5 t)) 4 := Zr.cI zr4 (by decide)
  have rn5 : Rny (wr vX8_init_5 (qX8_init_5 t)) [0] := Rny.cI rn4
  refine r_aload_n (pc' := 37) hx3 (hd 20) rfl 0 rfl rfl ?_
  refine r_iconst (pc' := 38) (v := (-1)) hx3 (hd 21) (by decide) rfl ?_
  refine z_putI (pc' := 41) (by decide) hx3 (hd 22) hin fw_8_29 (wat_new (G := gX8_init_3) (o := 0) (kd := 40 + 8) (n := 0) (by decide +kernel)) rfl (by decide) rfl rfl rfl ?_
  refine z_as (U' := (wr vX8_init_6 (qX8_init_6 t))) ((wrI ..).trans rfl) ?_
  have zr6 : Zr UZ_X8_init (wr vX8_init_6 (qX8_init_6 t)) 4 := Zr.cI zr5 (by decide)
  have rn6 : Rny (wr vX8_init_6 (qX8_init_6 t)) [0] := Rny.cI rn5
  refine r_aload_n (pc' := 42) hx3 (hd 23) rfl 0 rfl rfl ?_
  refine r_iconst (pc' := 43) (v := (-1)) hx3 (hd 24) (by decide) rfl ?_
  refine z_putI (pc' := 46) (by decide) hx3 (hd 25) hin fw_8_32 (wat_new (G := gX8_init_3) (o := 0) (kd := 40 + 8) (n := 0) (by decide +kernel)) rfl (by decide) rfl rfl rfl ?_
  refine z_as (U' := (wr vX8_init_7 (qX8_init_7 t))) ((wrI ..).trans rfl) ?_
  have zr7 : Zr UZ_X8_init (wr vX8_init_7 (qX8_init_7 t)) 4 := Zr.cI zr6 (by decide)
  have rn7 : Rny (wr vX8_init_7 (qX8_init_7 t)) [0] := Rny.cI rn6
  refine r_aload_n (pc' := 47) hx3 (hd 26) rfl 0 rfl rfl ?_
  refine r_iconst (pc' := 48) (v := (-1)) hx3 (hd 27) (by decide) rfl ?_
  refine z_putI (pc' := 51) (by decide) hx3 (hd 28) hin fw_8_35 (wat_new (G := gX8_init_3) (o := 0) (kd := 40 + 8) (n := 0) (by decide +kernel)) rfl (by decide) rfl rfl rfl ?_
  refine z_as (U' := (wr vX8_init_8 (qX8_init_8 t))) ((wrI ..).trans rfl) ?_
  have zr8 : Zr UZ_X8_init (wr vX8_init_8 (qX8_init_8 t)) 4 := Zr.cI zr7 (by decide)
  have rn8 : Rny (wr vX8_init_8 (qX8_init_8 t)) [0] := Rny.cI rn7
  refine z_done (G := gX8_init_3) (G' := G_X8_init) (l := [0]) (T := T_X8_init) (ci := 8) hb rfl rfl rn8 (by decide +kernel) (by decide +kernel) (fun o ho H => by
    have e9 : o = 0 := by simpa using ho
    subst e9
    exact va_done (S := 4) (ci := 8) (by decide) (by decide) (fun k hk => by
      match k, hk with
      | 0, _ => first | exact trivial | exact rfl
      | 1, _ => first | exact trivial | exact rfl
      | 2, _ => first | exact trivial | exact rfl
      | 3, _ => first | exact trivial | exact rfl
      | 4, _ => first | exact trivial | exact rfl
      | 5, _ => first | exact trivial | exact rfl
      | 6, _ => first | exact trivial | exact rfl
      | 7, _ => first | exact trivial | exact rfl
      | 8, _ => first | exact trivial | exact rfl
      | 9, _ => first | exact trivial | exact rfl
      | 10, _ => first | exact trivial | exact rfl
      | 11, _ => first | exact trivial | exact rfl
      | 12, _ => first | exact trivial | exact rfl
      | n + 13, h => exact absurd h (by rw [show nf 8 = 13 from rfl]; omega))) rfl ?_
  exact q_vretI (ok_grow (w' := wg w t G_X8_init) hx3 rfl rfl rfl rfl (lay_wg hL hb (by decide +kernel)) (by rw [hR.1]; decide) (by rw [hR.2]; decide)) (hd 29)
def qX7_init_0 (t : Nat) : Nat → Nat → Option Nat := fun _ _ => none
def qX7_init_1 (t : Nat) : Nat → Nat → Option Nat := up2 (qX7_init_0 t) 0 0 (some (t + 1))
def qX7_init_2 (t : Nat) : Nat → Nat → Option Nat := up2 (qX7_init_1 t) 0 1 (some (t + 2))
def gX7_init_0 : List (Nat × Nat) := [(47, 0)]
def gX7_init_1 : List (Nat × Nat) := gX7_init_0 ++ [(20, 19)]
def gX7_init_2 : List (Nat × Nat) := gX7_init_1 ++ [(21, 32)]
def G_X7_init : List (Nat × Nat) := [(7, 0), (20, 19), (21, 32)]
abbrev yX7_init : MethodName := ({ cls := "CribbageRoom$Sums", name := "<init>", desc := "()V" } : Jvm.MethodName)
def tbX7_init : List (Nat × Instr × Nat) := [(0, .aload_n 0, 1), (1, .invokespecial 3, 3), (4, .aload_n 0, 1), (5, .bipush 19, 2), (7, .newarray .int, 2), (9, .putfield 9, 3), (12, .aload_n 0, 1), (13, .bipush 32, 2), (15, .newarray .long, 2), (17, .putfield 15, 3), (20, .return_, 1)]
theorem dX7_init : ∀ q ∈ tbX7_init, decode prog_9_method_1_code q.1 = .ok q.2 := by decide +kernel
set_option maxRecDepth 50000 in
set_option maxHeartbeats 4000000 in
theorem cX7_init (l : Launch) (w : WX) (t : Nat) (hb : Bel w t) (hz : wz w ≤ t) (hL : Lay w) (M : Mem) : CtI l w t 7 yX7_init prog_9_method_1_code 1 1 20 2 51 [.ref t] (put M t 3 UZ_X7_init) G_X7_init (put M t 3 T_X7_init) := by
  refine ctI_of (by decide) rfl (Nat.le_of_ble_eq_true rfl) (fun x hl hsz hR hin hx0 hb9 => ?_)
  subst hl
  have hd : ∀ i, DAt (xc x).code (tbX7_init[i]?) := fun i => by rw [hb9]; exact dat_of dX7_init i
  show C (xat x 0 0) (wg w t gX7_init_0) (Qi x w t G_X7_init (put M t 3 T_X7_init) 2 51) 1 0 [(0, .ref t)] [] (put M t 3 UZ_X7_init) (some ())
  refine z_as (U' := (wr vX7_init_0 (qX7_init_0 t))) rfl ?_
  have zr0 : Zr UZ_X7_init (wr vX7_init_0 (qX7_init_0 t)) 1 := Zr.z0 rfl rfl rfl rfl
  have rn0 : Rny (wr vX7_init_0 (qX7_init_0 t)) [0] := Rny.z9 rfl
  refine r_aload_n (pc' := 1) hx0 (hd 0) rfl 0 rfl rfl ?_
  refine q_objI hx0 (hd 1) mlI_7_3 ob_in ob_cd ⟨Nat.le_of_ble_eq_true rfl, Nat.le_of_ble_eq_true rfl⟩ (Nat.le_of_ble_eq_true rfl) ?_
  refine r_pcA (pc' := 4) rfl ?_
  refine r_aload_n (pc' := 5) hx0 (hd 2) rfl 0 rfl rfl ?_
  refine r_bipush (pc' := 7) (v := 19) hx0 (hd 3) (by decide) rfl ?_
  refine q_newa (gn := 19) (G := gX7_init_0) (K := 0) (N := 0) (kd := 20) (c := 0) (n := 19) (o := 1) (ty := .int) (e9 := .inl (fun _ => 0)) rfl hb hz (by decide) (by rw [hsz]; exact (by omega : t + 1 + 0 = t + 1)) hx0 (hd 4) rfl ar_int rfl (fun _ _ h => h) (by decide) (by decide) (by decide) (by rw [hR.1]; decide) (by rw [hR.2]; decide) (fun _ => rfl) (ce_int (by decide) (zr0 1 (by decide)).1) (nr_put (by decide) (zr0 1 (by decide)).2.2.1) ?_
  have hx1 : Ok _ 1 none _ _ (wg w t gX7_init_1) (xat x 1 19) := ok_grow (w' := wg w t gX7_init_1) hx0 rfl rfl rfl rfl (lay_wg hL hb (by decide +kernel)) (by rw [hR.1]; decide) (by rw [hR.2]; decide)
  refine z_putR (pc' := 12) (o := 1) (by decide) hx1 (hd 5) hin fw_7_9 (wat_new (G := gX7_init_1) (o := 0) (kd := 40 + 7) (n := 0) (by decide +kernel)) rfl (by decide) rfl rfl rfl ?_
  refine z_as (U' := (wr vX7_init_1 (qX7_init_1 t))) ((wrR ..).trans rfl) ?_
  have zr1 : Zr UZ_X7_init (wr vX7_init_1 (qX7_init_1 t)) 2 := Zr.cR zr0 (by decide)
  have rn1 : Rny (wr vX7_init_1 (qX7_init_1 t)) [0] := Rny.cR rn0 (by decide)
  refine r_aload_n (pc' := 13) hx1 (hd 6) rfl 0 rfl rfl ?_
  refine r_bipush (pc' := 15) (v := 32) hx1 (hd 7) (by decide) rfl ?_
  refine q_newa (gn := 32) (G := gX7_init_1) (K := 1) (N := 19) (kd := 21) (c := 1) (n := 32) (o := 2) (ty := .long) (e9 := .inr (.inl (fun _ => 0))) rfl hb hz (by decide) (by rw [hsz]; exact (by omega : t + 1 + 1 = t + 2)) hx1 (hd 8) rfl ar_long rfl (fun _ _ h => h) (by decide) (by decide) (by decide) (by rw [hR.1]; decide) (by rw [hR.2]; decide) (fun _ => rfl) (ce_long (by decide) (zr1 2 (by decide)).2.1) (nr_put (by decide) (zr1 2 (by decide)).2.2.1) ?_
  have hx2 : Ok _ 1 none _ _ (wg w t gX7_init_2) (xat x 2 51) := ok_grow (w' := wg w t gX7_init_2) hx1 rfl rfl rfl rfl (lay_wg hL hb (by decide +kernel)) (by rw [hR.1]; decide) (by rw [hR.2]; decide)
  refine z_putR (pc' := 20) (o := 2) (by decide) hx2 (hd 9) hin fw_7_15 (wat_new (G := gX7_init_2) (o := 0) (kd := 40 + 7) (n := 0) (by decide +kernel)) rfl (by decide) rfl rfl rfl ?_
  refine z_as (U' := (wr vX7_init_2 (qX7_init_2 t))) ((wrR ..).trans rfl) ?_
  have zr2 : Zr UZ_X7_init (wr vX7_init_2 (qX7_init_2 t)) 3 := Zr.cR zr1 (by decide)
  have rn2 : Rny (wr vX7_init_2 (qX7_init_2 t)) [0] := Rny.cR rn1 (by decide)
  refine z_done (G := gX7_init_2) (G' := G_X7_init) (l := [0]) (T := T_X7_init) (ci := 7) hb rfl rfl rn2 (by decide +kernel) (by decide +kernel) (fun o ho H => by
    have e9 : o = 0 := by simpa using ho
    subst e9
    exact va_done (S := 3) (ci := 7) (by decide) (by decide) (fun k hk => by
      match k, hk with
      | 0, _ => first | exact trivial | exact rfl
      | 1, _ => first | exact trivial | exact rfl
      | 2, _ => first | exact trivial | exact rfl
      | 3, _ => first | exact trivial | exact rfl
      | 4, _ => first | exact trivial | exact rfl
      | 5, _ => first | exact trivial | exact rfl
      | n + 6, h => exact absurd h (by rw [show nf 7 = 6 from rfl]; omega))) rfl ?_
  exact q_vretI (ok_grow (w' := wg w t G_X7_init) hx2 rfl rfl rfl rfl (lay_wg hL hb (by decide +kernel)) (by rw [hR.1]; decide) (by rw [hR.2]; decide)) (hd 10)
def qX9_init_0_0 (t : Nat) : Nat → Nat → Option Nat := fun _ _ => none
def qX9_init_0_1 (t : Nat) : Nat → Nat → Option Nat := up2 (qX9_init_0_0 t) 0 0 (some (t + 1))
def qX9_init_0_2 (t : Nat) : Nat → Nat → Option Nat := up2 (qX9_init_0_1 t) 0 1 (some (t + 2))
def gX9_init_0_0 : List (Nat × Nat) := [(49, 0)]
def gX9_init_0_1 : List (Nat × Nat) := gX9_init_0_0 ++ [(23, 0)]
def gX9_init_0_2 : List (Nat × Nat) := gX9_init_0_1 ++ [(23, 0)]
def G_X9_init_0 : List (Nat × Nat) := [(9, 0), (23, 0), (23, 0)]
abbrev yX9_init_0 : MethodName := ({ cls := "CribbageRoom$Text", name := "<init>", desc := "()V" } : Jvm.MethodName)
def tbX9_init_0 : List (Nat × Instr × Nat) := [(0, .aload_n 0, 1), (1, .invokespecial 3, 3), (4, .aload_n 0, 1), (5, .sipush 800, 3), (8, .newarray .int, 2), (10, .putfield 9, 3), (13, .aload_n 0, 1), (14, .bipush 72, 2), (16, .newarray .int, 2), (18, .putfield 15, 3), (21, .return_, 1)]
theorem dX9_init_0 : ∀ q ∈ tbX9_init_0, decode prog_11_method_1_code q.1 = .ok q.2 := by decide +kernel
set_option maxRecDepth 50000 in
set_option maxHeartbeats 4000000 in
theorem cX9_init_0 (l : Launch) (w : WX) (t : Nat) (hb : Bel w t) (hz : wz w ≤ t) (hL : Lay w) (M : Mem) : CtI l w t 9 yX9_init_0 prog_11_method_1_code 1 1 20 2 872 [.ref t] (put M t 3 UZ_X9_init_0) G_X9_init_0 (put M t 3 T_X9_init_0) := by
  refine ctI_of (by decide) rfl (Nat.le_of_ble_eq_true rfl) (fun x hl hsz hR hin hx0 hb9 => ?_)
  subst hl
  have hd : ∀ i, DAt (xc x).code (tbX9_init_0[i]?) := fun i => by rw [hb9]; exact dat_of dX9_init_0 i
  show C (xat x 0 0) (wg w t gX9_init_0_0) (Qi x w t G_X9_init_0 (put M t 3 T_X9_init_0) 2 872) 1 0 [(0, .ref t)] [] (put M t 3 UZ_X9_init_0) (some ())
  refine z_as (U' := (wr vX9_init_0_0 (qX9_init_0_0 t))) rfl ?_
  have zr0 : Zr UZ_X9_init_0 (wr vX9_init_0_0 (qX9_init_0_0 t)) 1 := Zr.z0 rfl rfl rfl rfl
  have rn0 : Rny (wr vX9_init_0_0 (qX9_init_0_0 t)) [0] := Rny.z9 rfl
  refine r_aload_n (pc' := 1) hx0 (hd 0) rfl 0 rfl rfl ?_
  refine q_objI hx0 (hd 1) mlI_9_3 ob_in ob_cd ⟨Nat.le_of_ble_eq_true rfl, Nat.le_of_ble_eq_true rfl⟩ (Nat.le_of_ble_eq_true rfl) ?_
  refine r_pcA (pc' := 4) rfl ?_
  refine r_aload_n (pc' := 5) hx0 (hd 2) rfl 0 rfl rfl ?_
  refine r_sipush (pc' := 8) (v := 800) hx0 (hd 3) (by decide) rfl ?_
  refine q_newa (gn := 0) (G := gX9_init_0_0) (K := 0) (N := 0) (kd := 23) (c := 0) (n := 800) (o := 1) (ty := .int) (e9 := .inl (fun _ => 0)) rfl hb hz (by decide) (by rw [hsz]; exact (by omega : t + 1 + 0 = t + 1)) hx0 (hd 4) rfl ar_int rfl (fun _ _ h => h) (by decide) (by decide) (by decide) (by rw [hR.1]; decide) (by rw [hR.2]; decide) (fun _ => rfl) (ce_dyn (by decide) (zr0 1 (by decide)).1 ((zr0 1 (by decide)).2.2.2.trans rfl)) (nr_put (by decide) (zr0 1 (by decide)).2.2.1) ?_
  have hx1 : Ok _ 1 none _ _ (wg w t gX9_init_0_1) (xat x 1 800) := ok_grow (w' := wg w t gX9_init_0_1) hx0 rfl rfl rfl rfl (lay_wg hL hb (by decide +kernel)) (by rw [hR.1]; decide) (by rw [hR.2]; decide)
  refine z_putR (pc' := 13) (o := 1) (by decide) hx1 (hd 5) hin fw_9_9 (wat_new (G := gX9_init_0_1) (o := 0) (kd := 40 + 9) (n := 0) (by decide +kernel)) rfl (by decide) rfl rfl rfl ?_
  refine z_as (U' := (wr vX9_init_0_1 (qX9_init_0_1 t))) ((wrR ..).trans rfl) ?_
  have zr1 : Zr UZ_X9_init_0 (wr vX9_init_0_1 (qX9_init_0_1 t)) 2 := Zr.cR zr0 (by decide)
  have rn1 : Rny (wr vX9_init_0_1 (qX9_init_0_1 t)) [0] := Rny.cR rn0 (by decide)
  refine r_aload_n (pc' := 14) hx1 (hd 6) rfl 0 rfl rfl ?_
  refine r_bipush (pc' := 16) (v := 72) hx1 (hd 7) (by decide) rfl ?_
  refine q_newa (gn := 0) (G := gX9_init_0_1) (K := 1) (N := 800) (kd := 23) (c := 0) (n := 72) (o := 2) (ty := .int) (e9 := .inl (fun _ => 0)) rfl hb hz (by decide) (by rw [hsz]; exact (by omega : t + 1 + 1 = t + 2)) hx1 (hd 8) rfl ar_int rfl (fun _ _ h => h) (by decide) (by decide) (by decide) (by rw [hR.1]; decide) (by rw [hR.2]; decide) (fun _ => rfl) (ce_dyn (by decide) (zr1 2 (by decide)).1 ((zr1 2 (by decide)).2.2.2.trans rfl)) (nr_put (by decide) (zr1 2 (by decide)).2.2.1) ?_
  have hx2 : Ok _ 1 none _ _ (wg w t gX9_init_0_2) (xat x 2 872) := ok_grow (w' := wg w t gX9_init_0_2) hx1 rfl rfl rfl rfl (lay_wg hL hb (by decide +kernel)) (by rw [hR.1]; decide) (by rw [hR.2]; decide)
  refine z_putR (pc' := 21) (o := 2) (by decide) hx2 (hd 9) hin fw_9_15 (wat_new (G := gX9_init_0_2) (o := 0) (kd := 40 + 9) (n := 0) (by decide +kernel)) rfl (by decide) rfl rfl rfl ?_
  refine z_as (U' := (wr vX9_init_0_2 (qX9_init_0_2 t))) ((wrR ..).trans rfl) ?_
  have zr2 : Zr UZ_X9_init_0 (wr vX9_init_0_2 (qX9_init_0_2 t)) 3 := Zr.cR zr1 (by decide)
  have rn2 : Rny (wr vX9_init_0_2 (qX9_init_0_2 t)) [0] := Rny.cR rn1 (by decide)
  refine z_done (G := gX9_init_0_2) (G' := G_X9_init_0) (l := [0]) (T := T_X9_init_0) (ci := 9) hb rfl rfl rn2 (by decide +kernel) (by decide +kernel) (fun o ho H => by
    have e9 : o = 0 := by simpa using ho
    subst e9
    exact va_done (S := 3) (ci := 9) (by decide) (by decide) (fun k hk => by
      match k, hk with
      | 0, _ => first | exact trivial | exact rfl
      | 1, _ => first | exact trivial | exact rfl
      | 2, _ => first | exact trivial | exact rfl
      | 3, _ => first | exact trivial | exact rfl
      | 4, _ => first | exact trivial | exact rfl
      | n + 5, h => exact absurd h (by rw [show nf 9 = 5 from rfl]; omega))) rfl ?_
  exact q_vretI (ok_grow (w' := wg w t G_X9_init_0) hx2 rfl rfl rfl rfl (lay_wg hL hb (by decide +kernel)) (by rw [hR.1]; decide) (by rw [hR.2]; decide)) (hd 10)
def qX2_init_0 (t : Nat) : Nat → Nat → Option Nat := fun _ _ => none
def qX2_init_1 (t : Nat) : Nat → Nat → Option Nat := up2 (qX2_init_0 t) 0 0 (some (t + 1))
def qX2_init_2 (t : Nat) : Nat → Nat → Option Nat := up2 (qX2_init_1 t) 0 1 (some (t + 2))
def qX2_init_3 (t : Nat) : Nat → Nat → Option Nat := up2 (qX2_init_2 t) 0 2 (some (t + 3))
def qX2_init_4 (t : Nat) : Nat → Nat → Option Nat := up2 (qX2_init_3 t) 0 3 (some (t + 4))
def qX2_init_5 (t : Nat) : Nat → Nat → Option Nat := up2 (qX2_init_4 t) 0 4 (some (t + 5))
def gX2_init_0 : List (Nat × Nat) := [(42, 0)]
def gX2_init_1 : List (Nat × Nat) := gX2_init_0 ++ [(20, 4)]
def gX2_init_2 : List (Nat × Nat) := gX2_init_1 ++ [(20, 13)]
def gX2_init_3 : List (Nat × Nat) := gX2_init_2 ++ [(20, 13)]
def gX2_init_4 : List (Nat × Nat) := gX2_init_3 ++ [(20, 13)]
def gX2_init_5 : List (Nat × Nat) := gX2_init_4 ++ [(20, 32)]
def G_X2_init : List (Nat × Nat) := [(2, 0), (20, 4), (20, 13), (20, 13), (20, 13), (20, 32)]
abbrev yX2_init : MethodName := ({ cls := "CribbageRoom$Four", name := "<init>", desc := "()V" } : Jvm.MethodName)
def tbX2_init : List (Nat × Instr × Nat) := [(0, .aload_n 0, 1), (1, .invokespecial 3, 3), (4, .aload_n 0, 1), (5, .iconst 4, 1), (6, .newarray .int, 2), (8, .putfield 9, 3), (11, .aload_n 0, 1), (12, .bipush 13, 2), (14, .newarray .int, 2), (16, .putfield 15, 3), (19, .aload_n 0, 1), (20, .bipush 13, 2), (22, .newarray .int, 2), (24, .putfield 18, 3), (27, .aload_n 0, 1), (28, .bipush 13, 2), (30, .newarray .int, 2), (32, .putfield 21, 3), (35, .aload_n 0, 1), (36, .bipush 32, 2), (38, .newarray .int, 2), (40, .putfield 24, 3), (43, .return_, 1)]
theorem dX2_init : ∀ q ∈ tbX2_init, decode prog_4_method_1_code q.1 = .ok q.2 := by decide +kernel
set_option maxRecDepth 50000 in
set_option maxHeartbeats 4000000 in
theorem cX2_init (l : Launch) (w : WX) (t : Nat) (hb : Bel w t) (hz : wz w ≤ t) (hL : Lay w) (M : Mem) : CtI l w t 2 yX2_init prog_4_method_1_code 1 1 20 5 75 [.ref t] (put M t 6 UZ_X2_init) G_X2_init (put M t 6 T_X2_init) := by
  refine ctI_of (by decide) rfl (Nat.le_of_ble_eq_true rfl) (fun x hl hsz hR hin hx0 hb9 => ?_)
  subst hl
  have hd : ∀ i, DAt (xc x).code (tbX2_init[i]?) := fun i => by rw [hb9]; exact dat_of dX2_init i
  show C (xat x 0 0) (wg w t gX2_init_0) (Qi x w t G_X2_init (put M t 6 T_X2_init) 5 75) 1 0 [(0, .ref t)] [] (put M t 6 UZ_X2_init) (some ())
  refine z_as (U' := (wr vX2_init_0 (qX2_init_0 t))) rfl ?_
  have zr0 : Zr UZ_X2_init (wr vX2_init_0 (qX2_init_0 t)) 1 := Zr.z0 rfl rfl rfl rfl
  have rn0 : Rny (wr vX2_init_0 (qX2_init_0 t)) [0] := Rny.z9 rfl
  refine r_aload_n (pc' := 1) hx0 (hd 0) rfl 0 rfl rfl ?_
  refine q_objI hx0 (hd 1) mlI_2_3 ob_in ob_cd ⟨Nat.le_of_ble_eq_true rfl, Nat.le_of_ble_eq_true rfl⟩ (Nat.le_of_ble_eq_true rfl) ?_
  refine r_pcA (pc' := 4) rfl ?_
  refine r_aload_n (pc' := 5) hx0 (hd 2) rfl 0 rfl rfl ?_
  refine r_iconst (pc' := 6) (v := 4) hx0 (hd 3) (by decide) rfl ?_
  refine q_newa (gn := 4) (G := gX2_init_0) (K := 0) (N := 0) (kd := 20) (c := 0) (n := 4) (o := 1) (ty := .int) (e9 := .inl (fun _ => 0)) rfl hb hz (by decide) (by rw [hsz]; exact (by omega : t + 1 + 0 = t + 1)) hx0 (hd 4) rfl ar_int rfl (fun _ _ h => h) (by decide) (by decide) (by decide) (by rw [hR.1]; decide) (by rw [hR.2]; decide) (fun _ => rfl) (ce_int (by decide) (zr0 1 (by decide)).1) (nr_put (by decide) (zr0 1 (by decide)).2.2.1) ?_
  have hx1 : Ok _ 1 none _ _ (wg w t gX2_init_1) (xat x 1 4) := ok_grow (w' := wg w t gX2_init_1) hx0 rfl rfl rfl rfl (lay_wg hL hb (by decide +kernel)) (by rw [hR.1]; decide) (by rw [hR.2]; decide)
  refine z_putR (pc' := 11) (o := 1) (by decide) hx1 (hd 5) hin fw_2_9 (wat_new (G := gX2_init_1) (o := 0) (kd := 40 + 2) (n := 0) (by decide +kernel)) rfl (by decide) rfl rfl rfl ?_
  refine z_as (U' := (wr vX2_init_1 (qX2_init_1 t))) ((wrR ..).trans rfl) ?_
  have zr1 : Zr UZ_X2_init (wr vX2_init_1 (qX2_init_1 t)) 2 := Zr.cR zr0 (by decide)
  have rn1 : Rny (wr vX2_init_1 (qX2_init_1 t)) [0] := Rny.cR rn0 (by decide)
  refine r_aload_n (pc' := 12) hx1 (hd 6) rfl 0 rfl rfl ?_
  refine r_bipush (pc' := 14) (v := 13) hx1 (hd 7) (by decide) rfl ?_
  refine q_newa (gn := 13) (G := gX2_init_1) (K := 1) (N := 4) (kd := 20) (c := 0) (n := 13) (o := 2) (ty := .int) (e9 := .inl (fun _ => 0)) rfl hb hz (by decide) (by rw [hsz]; exact (by omega : t + 1 + 1 = t + 2)) hx1 (hd 8) rfl ar_int rfl (fun _ _ h => h) (by decide) (by decide) (by decide) (by rw [hR.1]; decide) (by rw [hR.2]; decide) (fun _ => rfl) (ce_int (by decide) (zr1 2 (by decide)).1) (nr_put (by decide) (zr1 2 (by decide)).2.2.1) ?_
  have hx2 : Ok _ 1 none _ _ (wg w t gX2_init_2) (xat x 2 17) := ok_grow (w' := wg w t gX2_init_2) hx1 rfl rfl rfl rfl (lay_wg hL hb (by decide +kernel)) (by rw [hR.1]; decide) (by rw [hR.2]; decide)
  refine z_putR (pc' := 19) (o := 2) (by decide) hx2 (hd 9) hin fw_2_15 (wat_new (G := gX2_init_2) (o := 0) (kd := 40 + 2) (n := 0) (by decide +kernel)) rfl (by decide) rfl rfl rfl ?_
  refine z_as (U' := (wr vX2_init_2 (qX2_init_2 t))) ((wrR ..).trans rfl) ?_
  have zr2 : Zr UZ_X2_init (wr vX2_init_2 (qX2_init_2 t)) 3 := Zr.cR zr1 (by decide)
  have rn2 : Rny (wr vX2_init_2 (qX2_init_2 t)) [0] := Rny.cR rn1 (by decide)
  refine r_aload_n (pc' := 20) hx2 (hd 10) rfl 0 rfl rfl ?_
  refine r_bipush (pc' := 22) (v := 13) hx2 (hd 11) (by decide) rfl ?_
  refine q_newa (gn := 13) (G := gX2_init_2) (K := 2) (N := 17) (kd := 20) (c := 0) (n := 13) (o := 3) (ty := .int) (e9 := .inl (fun _ => 0)) rfl hb hz (by decide) (by rw [hsz]; exact (by omega : t + 1 + 2 = t + 3)) hx2 (hd 12) rfl ar_int rfl (fun _ _ h => h) (by decide) (by decide) (by decide) (by rw [hR.1]; decide) (by rw [hR.2]; decide) (fun _ => rfl) (ce_int (by decide) (zr2 3 (by decide)).1) (nr_put (by decide) (zr2 3 (by decide)).2.2.1) ?_
  have hx3 : Ok _ 1 none _ _ (wg w t gX2_init_3) (xat x 3 30) := ok_grow (w' := wg w t gX2_init_3) hx2 rfl rfl rfl rfl (lay_wg hL hb (by decide +kernel)) (by rw [hR.1]; decide) (by rw [hR.2]; decide)
  refine z_putR (pc' := 27) (o := 3) (by decide) hx3 (hd 13) hin fw_2_18 (wat_new (G := gX2_init_3) (o := 0) (kd := 40 + 2) (n := 0) (by decide +kernel)) rfl (by decide) rfl rfl rfl ?_
  refine z_as (U' := (wr vX2_init_3 (qX2_init_3 t))) ((wrR ..).trans rfl) ?_
  have zr3 : Zr UZ_X2_init (wr vX2_init_3 (qX2_init_3 t)) 4 := Zr.cR zr2 (by decide)
  have rn3 : Rny (wr vX2_init_3 (qX2_init_3 t)) [0] := Rny.cR rn2 (by decide)
  refine r_aload_n (pc' := 28) hx3 (hd 14) rfl 0 rfl rfl ?_
  refine r_bipush (pc' := 30) (v := 13) hx3 (hd 15) (by decide) rfl ?_
  refine q_newa (gn := 13) (G := gX2_init_3) (K := 3) (N := 30) (kd := 20) (c := 0) (n := 13) (o := 4) (ty := .int) (e9 := .inl (fun _ => 0)) rfl hb hz (by decide) (by rw [hsz]; exact (by omega : t + 1 + 3 = t + 4)) hx3 (hd 16) rfl ar_int rfl (fun _ _ h => h) (by decide) (by decide) (by decide) (by rw [hR.1]; decide) (by rw [hR.2]; decide) (fun _ => rfl) (ce_int (by decide) (zr3 4 (by decide)).1) (nr_put (by decide) (zr3 4 (by decide)).2.2.1) ?_
  have hx4 : Ok _ 1 none _ _ (wg w t gX2_init_4) (xat x 4 43) := ok_grow (w' := wg w t gX2_init_4) hx3 rfl rfl rfl rfl (lay_wg hL hb (by decide +kernel)) (by rw [hR.1]; decide) (by rw [hR.2]; decide)
  refine z_putR (pc' := 35) (o := 4) (by decide) hx4 (hd 17) hin fw_2_21 (wat_new (G := gX2_init_4) (o := 0) (kd := 40 + 2) (n := 0) (by decide +kernel)) rfl (by decide) rfl rfl rfl ?_
  refine z_as (U' := (wr vX2_init_4 (qX2_init_4 t))) ((wrR ..).trans rfl) ?_
  have zr4 : Zr UZ_X2_init (wr vX2_init_4 (qX2_init_4 t)) 5 := Zr.cR zr3 (by decide)
  have rn4 : Rny (wr vX2_init_4 (qX2_init_4 t)) [0] := Rny.cR rn3 (by decide)
  refine r_aload_n (pc' := 36) hx4 (hd 18) rfl 0 rfl rfl ?_
  refine r_bipush (pc' := 38) (v := 32) hx4 (hd 19) (by decide) rfl ?_
  refine q_newa (gn := 32) (G := gX2_init_4) (K := 4) (N := 43) (kd := 20) (c := 0) (n := 32) (o := 5) (ty := .int) (e9 := .inl (fun _ => 0)) rfl hb hz (by decide) (by rw [hsz]; exact (by omega : t + 1 + 4 = t + 5)) hx4 (hd 20) rfl ar_int rfl (fun _ _ h => h) (by decide) (by decide) (by decide) (by rw [hR.1]; decide) (by rw [hR.2]; decide) (fun _ => rfl) (ce_int (by decide) (zr4 5 (by decide)).1) (nr_put (by decide) (zr4 5 (by decide)).2.2.1) ?_
  have hx5 : Ok _ 1 none _ _ (wg w t gX2_init_5) (xat x 5 75) := ok_grow (w' := wg w t gX2_init_5) hx4 rfl rfl rfl rfl (lay_wg hL hb (by decide +kernel)) (by rw [hR.1]; decide) (by rw [hR.2]; decide)
  refine z_putR (pc' := 43) (o := 5) (by decide) hx5 (hd 21) hin fw_2_24 (wat_new (G := gX2_init_5) (o := 0) (kd := 40 + 2) (n := 0) (by decide +kernel)) rfl (by decide) rfl rfl rfl ?_
  refine z_as (U' := (wr vX2_init_5 (qX2_init_5 t))) ((wrR ..).trans rfl) ?_
  have zr5 : Zr UZ_X2_init (wr vX2_init_5 (qX2_init_5 t)) 6 := Zr.cR zr4 (by decide)
  have rn5 : Rny (wr vX2_init_5 (qX2_init_5 t)) [0] := Rny.cR rn4 (by decide)
  refine z_done (G := gX2_init_5) (G' := G_X2_init) (l := [0]) (T := T_X2_init) (ci := 2) hb rfl rfl rn5 (by decide +kernel) (by decide +kernel) (fun o ho H => by
    have e9 : o = 0 := by simpa using ho
    subst e9
    exact va_done (S := 6) (ci := 2) (by decide) (by decide) (fun k hk => by
      match k, hk with
      | 0, _ => first | exact trivial | exact rfl
      | 1, _ => first | exact trivial | exact rfl
      | 2, _ => first | exact trivial | exact rfl
      | 3, _ => first | exact trivial | exact rfl
      | 4, _ => first | exact trivial | exact rfl
      | 5, _ => first | exact trivial | exact rfl
      | 6, _ => first | exact trivial | exact rfl
      | 7, _ => first | exact trivial | exact rfl
      | 8, _ => first | exact trivial | exact rfl
      | 9, _ => first | exact trivial | exact rfl
      | n + 10, h => exact absurd h (by rw [show nf 2 = 10 from rfl]; omega))) rfl ?_
  exact q_vretI (ok_grow (w' := wg w t G_X2_init) hx5 rfl rfl rfl rfl (lay_wg hL hb (by decide +kernel)) (by rw [hR.1]; decide) (by rw [hR.2]; decide)) (hd 22)
def qX3_init_0 (t : Nat) : Nat → Nat → Option Nat := fun _ _ => none
def qX3_init_1 (t : Nat) : Nat → Nat → Option Nat := up2 (qX3_init_0 t) 0 0 (some (t + 1))
def qX3_init_2 (t : Nat) : Nat → Nat → Option Nat := up2 (qX3_init_1 t) 0 1 (some (t + 17))
def qX3_init_3 (t : Nat) : Nat → Nat → Option Nat := up2 (qX3_init_2 t) 0 2 (some (t + 18))
def gX3_init_0 : List (Nat × Nat) := [(43, 0)]
def gX3_init_1 : List (Nat × Nat) := (gX3_init_0 ++ [(34, 15)]) ++ List.replicate 15 (20, 52)
def gX3_init_2 : List (Nat × Nat) := gX3_init_1 ++ [(20, 15)]
def gX3_init_3 : List (Nat × Nat) := gX3_init_2 ++ [(20, 15)]
def G_X3_init : List (Nat × Nat) := [(3, 0), (34, 15), (20, 52), (20, 52), (20, 52), (20, 52), (20, 52), (20, 52), (20, 52), (20, 52), (20, 52), (20, 52), (20, 52), (20, 52), (20, 52), (20, 52), (20, 52), (20, 15), (20, 15)]
abbrev yX3_init : MethodName := ({ cls := "CribbageRoom$Fours", name := "<init>", desc := "()V" } : Jvm.MethodName)
def tbX3_init : List (Nat × Instr × Nat) := [(0, .aload_n 0, 1), (1, .invokespecial 3, 3), (4, .aload_n 0, 1), (5, .bipush 15, 2), (7, .bipush 52, 2), (9, .multianewarray 9 2, 4), (13, .putfield 11, 3), (16, .aload_n 0, 1), (17, .bipush 15, 2), (19, .newarray .int, 2), (21, .putfield 16, 3), (24, .aload_n 0, 1), (25, .bipush 15, 2), (27, .newarray .int, 2), (29, .putfield 20, 3), (32, .return_, 1)]
theorem dX3_init : ∀ q ∈ tbX3_init, decode prog_5_method_1_code q.1 = .ok q.2 := by decide +kernel
set_option maxRecDepth 50000 in
set_option maxHeartbeats 4000000 in
theorem cX3_init (l : Launch) (w : WX) (t : Nat) (hb : Bel w t) (hz : wz w ≤ t) (hL : Lay w) (M : Mem) : CtI l w t 3 yX3_init prog_5_method_1_code 1 1 20 18 825 [.ref t] (put M t 19 UZ_X3_init) G_X3_init (put M t 19 T_X3_init) := by
  refine ctI_of (by decide) rfl (Nat.le_of_ble_eq_true rfl) (fun x hl hsz hR hin hx0 hb9 => ?_)
  subst hl
  have hd : ∀ i, DAt (xc x).code (tbX3_init[i]?) := fun i => by rw [hb9]; exact dat_of dX3_init i
  show C (xat x 0 0) (wg w t gX3_init_0) (Qi x w t G_X3_init (put M t 19 T_X3_init) 18 825) 1 0 [(0, .ref t)] [] (put M t 19 UZ_X3_init) (some ())
  refine z_as (U' := (wr vX3_init_0 (qX3_init_0 t))) rfl ?_
  have zr0 : Zr UZ_X3_init (wr vX3_init_0 (qX3_init_0 t)) 1 := Zr.z0 rfl rfl rfl rfl
  have rn0 : Rny (wr vX3_init_0 (qX3_init_0 t)) [0] := Rny.z9 rfl
  refine r_aload_n (pc' := 1) hx0 (hd 0) rfl 0 rfl rfl ?_
  refine q_objI hx0 (hd 1) mlI_3_3 ob_in ob_cd ⟨Nat.le_of_ble_eq_true rfl, Nat.le_of_ble_eq_true rfl⟩ (Nat.le_of_ble_eq_true rfl) ?_
  refine r_pcA (pc' := 4) rfl ?_
  refine r_aload_n (pc' := 5) hx0 (hd 2) rfl 0 rfl rfl ?_
  refine r_bipush (pc' := 7) (v := 15) hx0 (hd 3) (by decide) rfl ?_
  refine r_bipush (pc' := 9) (v := 52) hx0 (hd 4) (by decide) rfl ?_
  refine q_mna (G := gX3_init_0) (K := 0) (N := 0) (kd := 34) (c := 5) (ck := 0) (n := 15) (k := 52) (o := 1) (ty := .int) (ekd := 20) (e9 := .inl (fun _ => 0)) rfl hb hz (by decide) (by rw [hsz]; exact (by omega : t + 1 + 0 = t + 1)) hx0 (hd 5) cl_3_9 ao_I ar_int rfl rfl (fun _ _ h => h) rfl (by decide) (by decide) (by decide) (by decide) (by decide) (by decide) (by decide) rfl rfl (by rw [hR.1]; decide) (by rw [hR.2]; decide) rfl (fun _ => mn_inint _ _) (fun o9 h9 => mn_ceint (by rw [show (gX3_init_0).length = 1 from rfl]; omega) (zr0 _ (by rw [show (gX3_init_0).length = 1 from rfl]; omega)).1) (fun o9 h9 j => mn_nr (by rw [show (gX3_init_0).length = 1 from rfl]; omega) (zr0 _ (by rw [show (gX3_init_0).length = 1 from rfl]; omega)).2.2.1 j) ?_
  have hx1 : Ok _ 1 none _ _ (wg w t gX3_init_1) (xat x 16 795) := ok_grow (w' := wg w t gX3_init_1) hx0 rfl rfl rfl rfl (lay_wg hL hb (by decide +kernel)) (by rw [hR.1]; decide) (by rw [hR.2]; decide)
  refine z_putR (pc' := 16) (o := 1) (by decide) hx1 (hd 6) hin fw_3_11 (wat_new (G := gX3_init_1) (o := 0) (kd := 40 + 3) (n := 0) (by decide +kernel)) rfl (by decide) rfl rfl rfl ?_
  refine z_as (U' := (wr vX3_init_1 (qX3_init_1 t))) ((wrR ..).trans rfl) ?_
  have zr1 : Zr UZ_X3_init (wr vX3_init_1 (qX3_init_1 t)) 17 := Zr.cR zr0 (by decide)
  have rn1 : Rny (wr vX3_init_1 (qX3_init_1 t)) [0] := Rny.cR rn0 (by decide)
  refine r_aload_n (pc' := 17) hx1 (hd 7) rfl 0 rfl rfl ?_
  refine r_bipush (pc' := 19) (v := 15) hx1 (hd 8) (by decide) rfl ?_
  refine q_newa (gn := 15) (G := gX3_init_1) (K := 16) (N := 795) (kd := 20) (c := 0) (n := 15) (o := 17) (ty := .int) (e9 := .inl (fun _ => 0)) rfl hb hz (by decide) (by rw [hsz]; exact (by omega : t + 1 + 16 = t + 17)) hx1 (hd 9) rfl ar_int rfl (fun _ _ h => h) (by decide) (by decide) (by decide) (by rw [hR.1]; decide) (by rw [hR.2]; decide) (fun _ => rfl) (ce_int (by decide) (zr1 17 (by decide)).1) (nr_put (by decide) (zr1 17 (by decide)).2.2.1) ?_
  have hx2 : Ok _ 1 none _ _ (wg w t gX3_init_2) (xat x 17 810) := ok_grow (w' := wg w t gX3_init_2) hx1 rfl rfl rfl rfl (lay_wg hL hb (by decide +kernel)) (by rw [hR.1]; decide) (by rw [hR.2]; decide)
  refine z_putR (pc' := 24) (o := 17) (by decide) hx2 (hd 10) hin fw_3_16 (wat_new (G := gX3_init_2) (o := 0) (kd := 40 + 3) (n := 0) (by decide +kernel)) rfl (by decide) rfl rfl rfl ?_
  refine z_as (U' := (wr vX3_init_2 (qX3_init_2 t))) ((wrR ..).trans rfl) ?_
  have zr2 : Zr UZ_X3_init (wr vX3_init_2 (qX3_init_2 t)) 18 := Zr.cR zr1 (by decide)
  have rn2 : Rny (wr vX3_init_2 (qX3_init_2 t)) [0] := Rny.cR rn1 (by decide)
  refine r_aload_n (pc' := 25) hx2 (hd 11) rfl 0 rfl rfl ?_
  refine r_bipush (pc' := 27) (v := 15) hx2 (hd 12) (by decide) rfl ?_
  refine q_newa (gn := 15) (G := gX3_init_2) (K := 17) (N := 810) (kd := 20) (c := 0) (n := 15) (o := 18) (ty := .int) (e9 := .inl (fun _ => 0)) rfl hb hz (by decide) (by rw [hsz]; exact (by omega : t + 1 + 17 = t + 18)) hx2 (hd 13) rfl ar_int rfl (fun _ _ h => h) (by decide) (by decide) (by decide) (by rw [hR.1]; decide) (by rw [hR.2]; decide) (fun _ => rfl) (ce_int (by decide) (zr2 18 (by decide)).1) (nr_put (by decide) (zr2 18 (by decide)).2.2.1) ?_
  have hx3 : Ok _ 1 none _ _ (wg w t gX3_init_3) (xat x 18 825) := ok_grow (w' := wg w t gX3_init_3) hx2 rfl rfl rfl rfl (lay_wg hL hb (by decide +kernel)) (by rw [hR.1]; decide) (by rw [hR.2]; decide)
  refine z_putR (pc' := 32) (o := 18) (by decide) hx3 (hd 14) hin fw_3_20 (wat_new (G := gX3_init_3) (o := 0) (kd := 40 + 3) (n := 0) (by decide +kernel)) rfl (by decide) rfl rfl rfl ?_
  refine z_as (U' := (wr vX3_init_3 (qX3_init_3 t))) ((wrR ..).trans rfl) ?_
  have zr3 : Zr UZ_X3_init (wr vX3_init_3 (qX3_init_3 t)) 19 := Zr.cR zr2 (by decide)
  have rn3 : Rny (wr vX3_init_3 (qX3_init_3 t)) [0] := Rny.cR rn2 (by decide)
  refine z_done (G := gX3_init_3) (G' := G_X3_init) (l := [0]) (T := T_X3_init) (ci := 3) hb rfl rfl rn3 (by decide +kernel) (by decide +kernel) (fun o ho H => by
    have e9 : o = 0 := by simpa using ho
    subst e9
    exact va_done (S := 19) (ci := 3) (by decide) (by decide) (fun k hk => by
      match k, hk with
      | 0, _ => first | exact trivial | exact rfl
      | 1, _ => first | exact trivial | exact rfl
      | 2, _ => first | exact trivial | exact rfl
      | 3, _ => first | exact trivial | exact rfl
      | n + 4, h => exact absurd h (by rw [show nf 3 = 4 from rfl]; omega))) rfl ?_
  exact q_vretI (ok_grow (w' := wg w t G_X3_init) hx3 rfl rfl rfl rfl (lay_wg hL hb (by decide +kernel)) (by rw [hR.1]; decide) (by rw [hR.2]; decide)) (hd 15)
def qX0_init_0 (t : Nat) : Nat → Nat → Option Nat := fun _ _ => none
def qX0_init_1 (t : Nat) : Nat → Nat → Option Nat := up2 (qX0_init_0 t) 0 0 (some (t + 1))
def qX0_init_2 (t : Nat) : Nat → Nat → Option Nat := up2 (qX0_init_1 t) 0 1 (some (t + 6))
def qX0_init_3 (t : Nat) : Nat → Nat → Option Nat := up2 (qX0_init_2 t) 0 2 (some (t + 7))
def qX0_init_4 (t : Nat) : Nat → Nat → Option Nat := up2 (qX0_init_3 t) 0 3 (some (t + 8))
def gX0_init_0 : List (Nat × Nat) := [(40, 0)]
def gX0_init_1 : List (Nat × Nat) := (gX0_init_0 ++ [(35, 4)]) ++ List.replicate 4 (21, 32)
def gX0_init_2 : List (Nat × Nat) := gX0_init_1 ++ [(20, 13)]
def gX0_init_3 : List (Nat × Nat) := gX0_init_2 ++ [(20, 4)]
def gX0_init_4 : List (Nat × Nat) := gX0_init_3 ++ [(20, 13)]
def G_X0_init : List (Nat × Nat) := [(0, 0), (35, 4), (21, 32), (21, 32), (21, 32), (21, 32), (20, 13), (20, 4), (20, 13)]
abbrev yX0_init : MethodName := ({ cls := "CribbageRoom$CribSum", name := "<init>", desc := "()V" } : Jvm.MethodName)
def tbX0_init : List (Nat × Instr × Nat) := [(0, .aload_n 0, 1), (1, .invokespecial 3, 3), (4, .aload_n 0, 1), (5, .iconst 4, 1), (6, .bipush 32, 2), (8, .multianewarray 9 2, 4), (12, .putfield 11, 3), (15, .aload_n 0, 1), (16, .bipush 13, 2), (18, .newarray .int, 2), (20, .putfield 16, 3), (23, .aload_n 0, 1), (24, .iconst 4, 1), (25, .newarray .int, 2), (27, .putfield 20, 3), (30, .aload_n 0, 1), (31, .bipush 13, 2), (33, .newarray .int, 2), (35, .putfield 23, 3), (38, .return_, 1)]
theorem dX0_init : ∀ q ∈ tbX0_init, decode prog_2_method_1_code q.1 = .ok q.2 := by decide +kernel
set_option maxRecDepth 50000 in
set_option maxHeartbeats 4000000 in
theorem cX0_init (l : Launch) (w : WX) (t : Nat) (hb : Bel w t) (hz : wz w ≤ t) (hL : Lay w) (M : Mem) : CtI l w t 0 yX0_init prog_2_method_1_code 1 1 20 8 162 [.ref t] (put M t 9 UZ_X0_init) G_X0_init (put M t 9 T_X0_init) := by
  refine ctI_of (by decide) rfl (Nat.le_of_ble_eq_true rfl) (fun x hl hsz hR hin hx0 hb9 => ?_)
  subst hl
  have hd : ∀ i, DAt (xc x).code (tbX0_init[i]?) := fun i => by rw [hb9]; exact dat_of dX0_init i
  show C (xat x 0 0) (wg w t gX0_init_0) (Qi x w t G_X0_init (put M t 9 T_X0_init) 8 162) 1 0 [(0, .ref t)] [] (put M t 9 UZ_X0_init) (some ())
  refine z_as (U' := (wr vX0_init_0 (qX0_init_0 t))) rfl ?_
  have zr0 : Zr UZ_X0_init (wr vX0_init_0 (qX0_init_0 t)) 1 := Zr.z0 rfl rfl rfl rfl
  have rn0 : Rny (wr vX0_init_0 (qX0_init_0 t)) [0] := Rny.z9 rfl
  refine r_aload_n (pc' := 1) hx0 (hd 0) rfl 0 rfl rfl ?_
  refine q_objI hx0 (hd 1) mlI_0_3 ob_in ob_cd ⟨Nat.le_of_ble_eq_true rfl, Nat.le_of_ble_eq_true rfl⟩ (Nat.le_of_ble_eq_true rfl) ?_
  refine r_pcA (pc' := 4) rfl ?_
  refine r_aload_n (pc' := 5) hx0 (hd 2) rfl 0 rfl rfl ?_
  refine r_iconst (pc' := 6) (v := 4) hx0 (hd 3) (by decide) rfl ?_
  refine r_bipush (pc' := 8) (v := 32) hx0 (hd 4) (by decide) rfl ?_
  refine q_mna (G := gX0_init_0) (K := 0) (N := 0) (kd := 35) (c := 6) (ck := 1) (n := 4) (k := 32) (o := 1) (ty := .long) (ekd := 21) (e9 := .inr (.inl (fun _ => 0))) rfl hb hz (by decide) (by rw [hsz]; exact (by omega : t + 1 + 0 = t + 1)) hx0 (hd 5) cl_0_9 ao_J ar_long rfl rfl (fun _ _ h => h) rfl (by decide) (by decide) (by decide) (by decide) (by decide) (by decide) (by decide) rfl rfl (by rw [hR.1]; decide) (by rw [hR.2]; decide) rfl (fun _ => mn_inlong _ _) (fun o9 h9 => mn_celong (by rw [show (gX0_init_0).length = 1 from rfl]; omega) (zr0 _ (by rw [show (gX0_init_0).length = 1 from rfl]; omega)).2.1) (fun o9 h9 j => mn_nr (by rw [show (gX0_init_0).length = 1 from rfl]; omega) (zr0 _ (by rw [show (gX0_init_0).length = 1 from rfl]; omega)).2.2.1 j) ?_
  have hx1 : Ok _ 1 none _ _ (wg w t gX0_init_1) (xat x 5 132) := ok_grow (w' := wg w t gX0_init_1) hx0 rfl rfl rfl rfl (lay_wg hL hb (by decide +kernel)) (by rw [hR.1]; decide) (by rw [hR.2]; decide)
  refine z_putR (pc' := 15) (o := 1) (by decide) hx1 (hd 6) hin fw_0_11 (wat_new (G := gX0_init_1) (o := 0) (kd := 40 + 0) (n := 0) (by decide +kernel)) rfl (by decide) rfl rfl rfl ?_
  refine z_as (U' := (wr vX0_init_1 (qX0_init_1 t))) ((wrR ..).trans rfl) ?_
  have zr1 : Zr UZ_X0_init (wr vX0_init_1 (qX0_init_1 t)) 6 := Zr.cR zr0 (by decide)
  have rn1 : Rny (wr vX0_init_1 (qX0_init_1 t)) [0] := Rny.cR rn0 (by decide)
  refine r_aload_n (pc' := 16) hx1 (hd 7) rfl 0 rfl rfl ?_
  refine r_bipush (pc' := 18) (v := 13) hx1 (hd 8) (by decide) rfl ?_
  refine q_newa (gn := 13) (G := gX0_init_1) (K := 5) (N := 132) (kd := 20) (c := 0) (n := 13) (o := 6) (ty := .int) (e9 := .inl (fun _ => 0)) rfl hb hz (by decide) (by rw [hsz]; exact (by omega : t + 1 + 5 = t + 6)) hx1 (hd 9) rfl ar_int rfl (fun _ _ h => h) (by decide) (by decide) (by decide) (by rw [hR.1]; decide) (by rw [hR.2]; decide) (fun _ => rfl) (ce_int (by decide) (zr1 6 (by decide)).1) (nr_put (by decide) (zr1 6 (by decide)).2.2.1) ?_
  have hx2 : Ok _ 1 none _ _ (wg w t gX0_init_2) (xat x 6 145) := ok_grow (w' := wg w t gX0_init_2) hx1 rfl rfl rfl rfl (lay_wg hL hb (by decide +kernel)) (by rw [hR.1]; decide) (by rw [hR.2]; decide)
  refine z_putR (pc' := 23) (o := 6) (by decide) hx2 (hd 10) hin fw_0_16 (wat_new (G := gX0_init_2) (o := 0) (kd := 40 + 0) (n := 0) (by decide +kernel)) rfl (by decide) rfl rfl rfl ?_
  refine z_as (U' := (wr vX0_init_2 (qX0_init_2 t))) ((wrR ..).trans rfl) ?_
  have zr2 : Zr UZ_X0_init (wr vX0_init_2 (qX0_init_2 t)) 7 := Zr.cR zr1 (by decide)
  have rn2 : Rny (wr vX0_init_2 (qX0_init_2 t)) [0] := Rny.cR rn1 (by decide)
  refine r_aload_n (pc' := 24) hx2 (hd 11) rfl 0 rfl rfl ?_
  refine r_iconst (pc' := 25) (v := 4) hx2 (hd 12) (by decide) rfl ?_
  refine q_newa (gn := 4) (G := gX0_init_2) (K := 6) (N := 145) (kd := 20) (c := 0) (n := 4) (o := 7) (ty := .int) (e9 := .inl (fun _ => 0)) rfl hb hz (by decide) (by rw [hsz]; exact (by omega : t + 1 + 6 = t + 7)) hx2 (hd 13) rfl ar_int rfl (fun _ _ h => h) (by decide) (by decide) (by decide) (by rw [hR.1]; decide) (by rw [hR.2]; decide) (fun _ => rfl) (ce_int (by decide) (zr2 7 (by decide)).1) (nr_put (by decide) (zr2 7 (by decide)).2.2.1) ?_
  have hx3 : Ok _ 1 none _ _ (wg w t gX0_init_3) (xat x 7 149) := ok_grow (w' := wg w t gX0_init_3) hx2 rfl rfl rfl rfl (lay_wg hL hb (by decide +kernel)) (by rw [hR.1]; decide) (by rw [hR.2]; decide)
  refine z_putR (pc' := 30) (o := 7) (by decide) hx3 (hd 14) hin fw_0_20 (wat_new (G := gX0_init_3) (o := 0) (kd := 40 + 0) (n := 0) (by decide +kernel)) rfl (by decide) rfl rfl rfl ?_
  refine z_as (U' := (wr vX0_init_3 (qX0_init_3 t))) ((wrR ..).trans rfl) ?_
  have zr3 : Zr UZ_X0_init (wr vX0_init_3 (qX0_init_3 t)) 8 := Zr.cR zr2 (by decide)
  have rn3 : Rny (wr vX0_init_3 (qX0_init_3 t)) [0] := Rny.cR rn2 (by decide)
  refine r_aload_n (pc' := 31) hx3 (hd 15) rfl 0 rfl rfl ?_
  refine r_bipush (pc' := 33) (v := 13) hx3 (hd 16) (by decide) rfl ?_
  refine q_newa (gn := 13) (G := gX0_init_3) (K := 7) (N := 149) (kd := 20) (c := 0) (n := 13) (o := 8) (ty := .int) (e9 := .inl (fun _ => 0)) rfl hb hz (by decide) (by rw [hsz]; exact (by omega : t + 1 + 7 = t + 8)) hx3 (hd 17) rfl ar_int rfl (fun _ _ h => h) (by decide) (by decide) (by decide) (by rw [hR.1]; decide) (by rw [hR.2]; decide) (fun _ => rfl) (ce_int (by decide) (zr3 8 (by decide)).1) (nr_put (by decide) (zr3 8 (by decide)).2.2.1) ?_
  have hx4 : Ok _ 1 none _ _ (wg w t gX0_init_4) (xat x 8 162) := ok_grow (w' := wg w t gX0_init_4) hx3 rfl rfl rfl rfl (lay_wg hL hb (by decide +kernel)) (by rw [hR.1]; decide) (by rw [hR.2]; decide)
  refine z_putR (pc' := 38) (o := 8) (by decide) hx4 (hd 18) hin fw_0_23 (wat_new (G := gX0_init_4) (o := 0) (kd := 40 + 0) (n := 0) (by decide +kernel)) rfl (by decide) rfl rfl rfl ?_
  refine z_as (U' := (wr vX0_init_4 (qX0_init_4 t))) ((wrR ..).trans rfl) ?_
  have zr4 : Zr UZ_X0_init (wr vX0_init_4 (qX0_init_4 t)) 9 := Zr.cR zr3 (by decide)
  have rn4 : Rny (wr vX0_init_4 (qX0_init_4 t)) [0] := Rny.cR rn3 (by decide)
  refine z_done (G := gX0_init_4) (G' := G_X0_init) (l := [0]) (T := T_X0_init) (ci := 0) hb rfl rfl rn4 (by decide +kernel) (by decide +kernel) (fun o ho H => by
    have e9 : o = 0 := by simpa using ho
    subst e9
    exact va_done (S := 9) (ci := 0) (by decide) (by decide) (fun k hk => by
      match k, hk with
      | 0, _ => first | exact trivial | exact rfl
      | 1, _ => first | exact trivial | exact rfl
      | 2, _ => first | exact trivial | exact rfl
      | 3, _ => first | exact trivial | exact rfl
      | 4, _ => first | exact trivial | exact rfl
      | 5, _ => first | exact trivial | exact rfl
      | 6, _ => first | exact trivial | exact rfl
      | 7, _ => first | exact trivial | exact rfl
      | n + 8, h => exact absurd h (by rw [show nf 0 = 8 from rfl]; omega))) rfl ?_
  exact q_vretI (ok_grow (w' := wg w t G_X0_init) hx4 rfl rfl rfl rfl (lay_wg hL hb (by decide +kernel)) (by rw [hR.1]; decide) (by rw [hR.2]; decide)) (hd 19)
def qX10_init_0 (t : Nat) : Nat → Nat → Option Nat := fun _ _ => none
def qX10_init_1 (t : Nat) : Nat → Nat → Option Nat := fun a => if 1 ≤ a ∧ a < 1 + 3 then T_X7_init.2.2.1 (a - 1) else (qX10_init_0 t) a
def qX10_init_2 (t : Nat) : Nat → Nat → Option Nat := up2 (qX10_init_1 t) 0 0 (some (t + 1))
def qX10_init_3 (t : Nat) : Nat → Nat → Option Nat := up2 (qX10_init_2 t) 0 1 (some (t + 4))
def qX10_init_4 (t : Nat) : Nat → Nat → Option Nat := up2 (qX10_init_3 t) 0 2 (some (t + 5))
def gX10_init_0 : List (Nat × Nat) := [(50, 0)]
def gX10_init_1 : List (Nat × Nat) := gX10_init_0 ++ [(47, 0)]
def gX10_init_2 : List (Nat × Nat) := gX10_init_0 ++ G_X7_init
def gX10_init_3 : List (Nat × Nat) := gX10_init_2 ++ [(20, 52)]
def gX10_init_4 : List (Nat × Nat) := (gX10_init_3 ++ [(33, 6)]) ++ List.replicate 6 (20, 39)
def G_X10_init : List (Nat × Nat) := [(10, 0), (7, 0), (20, 19), (21, 32), (20, 52), (33, 6), (20, 39), (20, 39), (20, 39), (20, 39), (20, 39), (20, 39)]
abbrev yX10_init : MethodName := ({ cls := "CribbageRoom$Worth", name := "<init>", desc := "()V" } : Jvm.MethodName)
def tbX10_init : List (Nat × Instr × Nat) := [(0, .aload_n 0, 1), (1, .invokespecial 3, 3), (4, .aload_n 0, 1), (5, .new 9, 3), (8, .dup, 1), (9, .invokespecial 11, 3), (12, .putfield 12, 3), (15, .aload_n 0, 1), (16, .bipush 52, 2), (18, .newarray .int, 2), (20, .putfield 18, 3), (23, .aload_n 0, 1), (24, .bipush 6, 2), (26, .bipush 39, 2), (28, .multianewarray 22 2, 4), (32, .putfield 24, 3), (35, .return_, 1)]
theorem dX10_init : ∀ q ∈ tbX10_init, decode prog_12_method_1_code q.1 = .ok q.2 := by decide +kernel
set_option maxRecDepth 50000 in
set_option maxHeartbeats 4000000 in
theorem cX10_init (l : Launch) (w : WX) (t : Nat) (hb : Bel w t) (hz : wz w ≤ t) (hL : Lay w) (M : Mem) : CtI l w t 10 yX10_init prog_12_method_1_code 1 2 40 11 349 [.ref t] (put M t 12 UZ_X10_init) G_X10_init (put M t 12 T_X10_init) := by
  refine ctI_of (by decide) rfl (Nat.le_of_ble_eq_true rfl) (fun x hl hsz hR hin hx0 hb9 => ?_)
  subst hl
  have hd : ∀ i, DAt (xc x).code (tbX10_init[i]?) := fun i => by rw [hb9]; exact dat_of dX10_init i
  show C (xat x 0 0) (wg w t gX10_init_0) (Qi x w t G_X10_init (put M t 12 T_X10_init) 11 349) 1 0 [(0, .ref t)] [] (put M t 12 UZ_X10_init) (some ())
  refine z_as (U' := (wr vX10_init_0 (qX10_init_0 t))) rfl ?_
  have zr0 : Zr UZ_X10_init (wr vX10_init_0 (qX10_init_0 t)) 1 := Zr.z0 rfl rfl rfl rfl
  have rn0 : Rny (wr vX10_init_0 (qX10_init_0 t)) [0] := Rny.z9 rfl
  refine r_aload_n (pc' := 1) hx0 (hd 0) rfl 0 rfl rfl ?_
  refine q_objI hx0 (hd 1) mlI_10_3 ob_in ob_cd ⟨Nat.le_of_ble_eq_true rfl, Nat.le_of_ble_eq_true rfl⟩ (Nat.le_of_ble_eq_true rfl) ?_
  refine r_pcA (pc' := 4) rfl ?_
  refine r_aload_n (pc' := 5) hx0 (hd 2) rfl 0 rfl rfl ?_
  refine q_newO (G := gX10_init_0) (K := 0) (N := 0) (ci := 7) (o := 1) tyX7 rfl hb hz (by decide) (by rw [hsz]; exact (by omega : t + 1 + 0 = t + 1)) hx0 (hd 3) rfl inX7 tyX7_ok cl_10_9 ins_7 ini_7 (by decide) (by rw [hR.1]; decide) (by rw [hR.2]; decide) ((put_at (by decide)).1.trans (zr0 1 (by decide)).1) ((put_at (by decide)).2.1.trans (zr0 1 (by decide)).2.1) ((put_at (by decide)).2.2.1.trans (zr0 1 (by decide)).2.2.1) dvX7 ?_
  have hx1 : Ok _ 1 none _ _ (wg w t gX10_init_1) (xat x 1 6) := ok_grow (w' := wg w t gX10_init_1) hx0 rfl rfl rfl rfl (lay_wg hL hb (by decide +kernel)) (by rw [hR.1]; decide) (by rw [hR.2]; decide)
  refine r_dup (pc' := 9) hx1 (hd 4) rfl rfl ?_
  refine z_pre (G0 := gX10_init_0) (o := 1) (s := 3) (U0 := UZ_X7_init) hb rfl (by decide) ((zr0 1 (by decide)).1.trans rfl) ((zr0 1 (by decide)).2.1.trans rfl) ((zr0 1 (by decide)).2.2.1.trans rfl) ((zr0 1 (by decide)).2.2.2.trans rfl) ?_
  refine q_callIN (G0 := gX10_init_0) (K := 1) (N := 6) (ci := 7) (o := 1) (As := []) (rest := [.ref (t + 1), .ref t]) rfl hb (by rw [hsz]; exact (by omega : t + 1 + 1 = t + 2)) hx1 (hd 5) mdI_X7_init rfl miI_X7_init mlI_10_11 (cX7_init (xl x) (wg w t gX10_init_0) (t + 1) (show Bel (wg w t gX10_init_0) (t + 1) from bel_wg hb) (Nat.le_trans hz (Nat.le_add_right _ _)) (lay_wg hL hb (by decide +kernel)) _) ⟨Nat.le_of_ble_eq_true rfl, Nat.le_of_ble_eq_true rfl⟩ (by rw [hR.1]; decide) (by rw [hR.2]; decide) rfl rfl (Nat.le_of_ble_eq_true rfl) ?_
  refine r_pcA (pc' := 12) rfl ?_
  refine z_post (by decide) ?_
  refine z_as (U' := (wr vX10_init_1 (qX10_init_1 t))) ((wrP ..).trans rfl) ?_
  have zr1 : Zr UZ_X10_init (wr vX10_init_1 (qX10_init_1 t)) 4 := Zr.cP zr0 (by decide) (by decide)
  have rn1 : Rny (wr vX10_init_1 (qX10_init_1 t)) [0] := Rny.cP rn0 Rny.c
  have hx2 : Ok _ 1 none _ _ (wg w t gX10_init_2) (xat x 3 57) := ok_grow (w' := wg w t gX10_init_2) hx1 rfl rfl rfl rfl (lay_wg hL hb (by decide +kernel)) (by rw [hR.1]; decide) (by rw [hR.2]; decide)
  refine z_putR (pc' := 15) (o := 1) (by decide) hx2 (hd 6) hin fw_10_12 (wat_new (G := gX10_init_2) (o := 0) (kd := 40 + 10) (n := 0) (by decide +kernel)) rfl (by decide) rfl rfl rfl ?_
  refine z_as (U' := (wr vX10_init_2 (qX10_init_2 t))) ((wrR ..).trans rfl) ?_
  have zr2 : Zr UZ_X10_init (wr vX10_init_2 (qX10_init_2 t)) 4 := Zr.cR zr1 (by decide)
  have rn2 : Rny (wr vX10_init_2 (qX10_init_2 t)) [0] := Rny.cR rn1 (by decide)
  refine r_aload_n (pc' := 16) hx2 (hd 7) rfl 0 rfl rfl ?_
  refine r_bipush (pc' := 18) (v := 52) hx2 (hd 8) (by decide) rfl ?_
  refine q_newa (gn := 52) (G := gX10_init_2) (K := 3) (N := 57) (kd := 20) (c := 0) (n := 52) (o := 4) (ty := .int) (e9 := .inl (fun _ => 0)) rfl hb hz (by decide) (by rw [hsz]; exact (by omega : t + 1 + 3 = t + 4)) hx2 (hd 9) rfl ar_int rfl (fun _ _ h => h) (by decide) (by decide) (by decide) (by rw [hR.1]; decide) (by rw [hR.2]; decide) (fun _ => rfl) (ce_int (by decide) (zr2 4 (by decide)).1) (nr_put (by decide) (zr2 4 (by decide)).2.2.1) ?_
  have hx3 : Ok _ 1 none _ _ (wg w t gX10_init_3) (xat x 4 109) := ok_grow (w' := wg w t gX10_init_3) hx2 rfl rfl rfl rfl (lay_wg hL hb (by decide +kernel)) (by rw [hR.1]; decide) (by rw [hR.2]; decide)
  refine z_putR (pc' := 23) (o := 4) (by decide) hx3 (hd 10) hin fw_10_18 (wat_new (G := gX10_init_3) (o := 0) (kd := 40 + 10) (n := 0) (by decide +kernel)) rfl (by decide) rfl rfl rfl ?_
  refine z_as (U' := (wr vX10_init_3 (qX10_init_3 t))) ((wrR ..).trans rfl) ?_
  have zr3 : Zr UZ_X10_init (wr vX10_init_3 (qX10_init_3 t)) 5 := Zr.cR zr2 (by decide)
  have rn3 : Rny (wr vX10_init_3 (qX10_init_3 t)) [0] := Rny.cR rn2 (by decide)
  refine r_aload_n (pc' := 24) hx3 (hd 11) rfl 0 rfl rfl ?_
  refine r_bipush (pc' := 26) (v := 6) hx3 (hd 12) (by decide) rfl ?_
  refine r_bipush (pc' := 28) (v := 39) hx3 (hd 13) (by decide) rfl ?_
  refine q_mna (G := gX10_init_3) (K := 4) (N := 109) (kd := 33) (c := 5) (ck := 0) (n := 6) (k := 39) (o := 5) (ty := .int) (ekd := 20) (e9 := .inl (fun _ => 0)) rfl hb hz (by decide) (by rw [hsz]; exact (by omega : t + 1 + 4 = t + 5)) hx3 (hd 14) cl_10_22 ao_I ar_int rfl rfl (fun _ _ h => h) rfl (by decide) (by decide) (by decide) (by decide) (by decide) (by decide) (by decide) rfl rfl (by rw [hR.1]; decide) (by rw [hR.2]; decide) rfl (fun _ => mn_inint _ _) (fun o9 h9 => mn_ceint (by rw [show (gX10_init_3).length = 5 from rfl]; omega) (zr3 _ (by rw [show (gX10_init_3).length = 5 from rfl]; omega)).1) (fun o9 h9 j => mn_nr (by rw [show (gX10_init_3).length = 5 from rfl]; omega) (zr3 _ (by rw [show (gX10_init_3).length = 5 from rfl]; omega)).2.2.1 j) ?_
  have hx4 : Ok _ 1 none _ _ (wg w t gX10_init_4) (xat x 11 349) := ok_grow (w' := wg w t gX10_init_4) hx3 rfl rfl rfl rfl (lay_wg hL hb (by decide +kernel)) (by rw [hR.1]; decide) (by rw [hR.2]; decide)
  refine z_putR (pc' := 35) (o := 5) (by decide) hx4 (hd 15) hin fw_10_24 (wat_new (G := gX10_init_4) (o := 0) (kd := 40 + 10) (n := 0) (by decide +kernel)) rfl (by decide) rfl rfl rfl ?_
  refine z_as (U' := (wr vX10_init_4 (qX10_init_4 t))) ((wrR ..).trans rfl) ?_
  have zr4 : Zr UZ_X10_init (wr vX10_init_4 (qX10_init_4 t)) 12 := Zr.cR zr3 (by decide)
  have rn4 : Rny (wr vX10_init_4 (qX10_init_4 t)) [0] := Rny.cR rn3 (by decide)
  refine z_done (G := gX10_init_4) (G' := G_X10_init) (l := [0]) (T := T_X10_init) (ci := 10) hb rfl rfl rn4 (by decide +kernel) (by decide +kernel) (fun o ho H => by
    have e9 : o = 0 := by simpa using ho
    subst e9
    exact va_done (S := 12) (ci := 10) (by decide) (by decide) (fun k hk => by
      match k, hk with
      | 0, _ => first | exact trivial | exact rfl
      | 1, _ => first | exact trivial | exact rfl
      | 2, _ => first | exact trivial | exact rfl
      | 3, _ => first | exact trivial | exact rfl
      | 4, _ => first | exact trivial | exact rfl
      | 5, _ => first | exact trivial | exact rfl
      | 6, _ => first | exact trivial | exact rfl
      | 7, _ => first | exact trivial | exact rfl
      | 8, _ => first | exact trivial | exact rfl
      | n + 9, h => exact absurd h (by rw [show nf 10 = 9 from rfl]; omega))) rfl ?_
  exact q_vretI (ok_grow (w' := wg w t G_X10_init) hx4 rfl rfl rfl rfl (lay_wg hL hb (by decide +kernel)) (by rw [hR.1]; decide) (by rw [hR.2]; decide)) (hd 16)
def qX4_init_0 (t : Nat) : Nat → Nat → Option Nat := fun _ _ => none
def qX4_init_1 (t : Nat) : Nat → Nat → Option Nat := up2 (qX4_init_0 t) 0 0 (some (t + 1))
def qX4_init_2 (t : Nat) : Nat → Nat → Option Nat := up2 (qX4_init_1 t) 0 1 (some (t + 2))
def qX4_init_3 (t : Nat) : Nat → Nat → Option Nat := fun a => if 3 ≤ a ∧ a < 3 + 4 then T_X8_init.2.2.1 (a - 3) else (qX4_init_2 t) a
def qX4_init_4 (t : Nat) : Nat → Nat → Option Nat := up2 (qX4_init_3 t) 1 0 (some (t + 3))
def qX4_init_5 (t : Nat) : Nat → Nat → Option Nat := fun a => if 7 ≤ a ∧ a < 7 + 4 then T_X8_init.2.2.1 (a - 7) else (qX4_init_4 t) a
def qX4_init_6 (t : Nat) : Nat → Nat → Option Nat := up2 (qX4_init_5 t) 1 1 (some (t + 7))
def qX4_init_7 (t : Nat) : Nat → Nat → Option Nat := fun a => if 11 ≤ a ∧ a < 11 + 4 then T_X8_init.2.2.1 (a - 11) else (qX4_init_6 t) a
def qX4_init_8 (t : Nat) : Nat → Nat → Option Nat := up2 (qX4_init_7 t) 1 2 (some (t + 11))
def qX4_init_9 (t : Nat) : Nat → Nat → Option Nat := fun a => if 15 ≤ a ∧ a < 15 + 4 then T_X8_init.2.2.1 (a - 15) else (qX4_init_8 t) a
def qX4_init_10 (t : Nat) : Nat → Nat → Option Nat := up2 (qX4_init_9 t) 1 3 (some (t + 15))
def qX4_init_11 (t : Nat) : Nat → Nat → Option Nat := fun a => if 19 ≤ a ∧ a < 19 + 4 then T_X8_init.2.2.1 (a - 19) else (qX4_init_10 t) a
def qX4_init_12 (t : Nat) : Nat → Nat → Option Nat := up2 (qX4_init_11 t) 1 4 (some (t + 19))
def qX4_init_13 (t : Nat) : Nat → Nat → Option Nat := fun a => if 23 ≤ a ∧ a < 23 + 4 then T_X8_init.2.2.1 (a - 23) else (qX4_init_12 t) a
def qX4_init_14 (t : Nat) : Nat → Nat → Option Nat := up2 (qX4_init_13 t) 1 5 (some (t + 23))
def qX4_init_15 (t : Nat) : Nat → Nat → Option Nat := fun a => if 27 ≤ a ∧ a < 27 + 4 then T_X8_init.2.2.1 (a - 27) else (qX4_init_14 t) a
def qX4_init_16 (t : Nat) : Nat → Nat → Option Nat := up2 (qX4_init_15 t) 1 6 (some (t + 27))
def qX4_init_17 (t : Nat) : Nat → Nat → Option Nat := fun a => if 31 ≤ a ∧ a < 31 + 4 then T_X8_init.2.2.1 (a - 31) else (qX4_init_16 t) a
def qX4_init_18 (t : Nat) : Nat → Nat → Option Nat := up2 (qX4_init_17 t) 1 7 (some (t + 31))
def qX4_init_19 (t : Nat) : Nat → Nat → Option Nat := fun a => if 35 ≤ a ∧ a < 35 + 4 then T_X8_init.2.2.1 (a - 35) else (qX4_init_18 t) a
def qX4_init_20 (t : Nat) : Nat → Nat → Option Nat := up2 (qX4_init_19 t) 1 8 (some (t + 35))
def qX4_init_21 (t : Nat) : Nat → Nat → Option Nat := fun a => if 39 ≤ a ∧ a < 39 + 4 then T_X8_init.2.2.1 (a - 39) else (qX4_init_20 t) a
def qX4_init_22 (t : Nat) : Nat → Nat → Option Nat := up2 (qX4_init_21 t) 1 9 (some (t + 39))
def qX4_init_23 (t : Nat) : Nat → Nat → Option Nat := fun a => if 43 ≤ a ∧ a < 43 + 4 then T_X8_init.2.2.1 (a - 43) else (qX4_init_22 t) a
def qX4_init_24 (t : Nat) : Nat → Nat → Option Nat := up2 (qX4_init_23 t) 1 10 (some (t + 43))
def qX4_init_25 (t : Nat) : Nat → Nat → Option Nat := fun a => if 47 ≤ a ∧ a < 47 + 4 then T_X8_init.2.2.1 (a - 47) else (qX4_init_24 t) a
def qX4_init_26 (t : Nat) : Nat → Nat → Option Nat := up2 (qX4_init_25 t) 1 11 (some (t + 47))
def qX4_init_27 (t : Nat) : Nat → Nat → Option Nat := fun a => if 51 ≤ a ∧ a < 51 + 4 then T_X8_init.2.2.1 (a - 51) else (qX4_init_26 t) a
def qX4_init_28 (t : Nat) : Nat → Nat → Option Nat := up2 (qX4_init_27 t) 1 12 (some (t + 51))
def qX4_init_29 (t : Nat) : Nat → Nat → Option Nat := fun a => if 55 ≤ a ∧ a < 55 + 4 then T_X8_init.2.2.1 (a - 55) else (qX4_init_28 t) a
def qX4_init_30 (t : Nat) : Nat → Nat → Option Nat := up2 (qX4_init_29 t) 1 13 (some (t + 55))
def qX4_init_31 (t : Nat) : Nat → Nat → Option Nat := fun a => if 59 ≤ a ∧ a < 59 + 4 then T_X8_init.2.2.1 (a - 59) else (qX4_init_30 t) a
def qX4_init_32 (t : Nat) : Nat → Nat → Option Nat := up2 (qX4_init_31 t) 1 14 (some (t + 59))
def qX4_init_33 (t : Nat) : Nat → Nat → Option Nat := fun a => if 63 ≤ a ∧ a < 63 + 4 then T_X8_init.2.2.1 (a - 63) else (qX4_init_32 t) a
def qX4_init_34 (t : Nat) : Nat → Nat → Option Nat := up2 (qX4_init_33 t) 1 15 (some (t + 63))
def gX4_init_0 : List (Nat × Nat) := [(44, 0)]
def gX4_init_1 : List (Nat × Nat) := gX4_init_0 ++ [(63, 16)]
def gX4_init_2 : List (Nat × Nat) := gX4_init_1 ++ [(20, 16)]
def gX4_init_3 : List (Nat × Nat) := gX4_init_2 ++ [(48, 0)]
def gX4_init_4 : List (Nat × Nat) := gX4_init_2 ++ G_X8_init
def gX4_init_5 : List (Nat × Nat) := gX4_init_4 ++ [(48, 0)]
def gX4_init_6 : List (Nat × Nat) := gX4_init_4 ++ G_X8_init
def gX4_init_7 : List (Nat × Nat) := gX4_init_6 ++ [(48, 0)]
def gX4_init_8 : List (Nat × Nat) := gX4_init_6 ++ G_X8_init
def gX4_init_9 : List (Nat × Nat) := gX4_init_8 ++ [(48, 0)]
def gX4_init_10 : List (Nat × Nat) := gX4_init_8 ++ G_X8_init
def gX4_init_11 : List (Nat × Nat) := gX4_init_10 ++ [(48, 0)]
def gX4_init_12 : List (Nat × Nat) := gX4_init_10 ++ G_X8_init
def gX4_init_13 : List (Nat × Nat) := gX4_init_12 ++ [(48, 0)]
def gX4_init_14 : List (Nat × Nat) := gX4_init_12 ++ G_X8_init
def gX4_init_15 : List (Nat × Nat) := gX4_init_14 ++ [(48, 0)]
def gX4_init_16 : List (Nat × Nat) := gX4_init_14 ++ G_X8_init
def gX4_init_17 : List (Nat × Nat) := gX4_init_16 ++ [(48, 0)]
def gX4_init_18 : List (Nat × Nat) := gX4_init_16 ++ G_X8_init
def gX4_init_19 : List (Nat × Nat) := gX4_init_18 ++ [(48, 0)]
def gX4_init_20 : List (Nat × Nat) := gX4_init_18 ++ G_X8_init
def gX4_init_21 : List (Nat × Nat) := gX4_init_20 ++ [(48, 0)]
def gX4_init_22 : List (Nat × Nat) := gX4_init_20 ++ G_X8_init
def gX4_init_23 : List (Nat × Nat) := gX4_init_22 ++ [(48, 0)]
def gX4_init_24 : List (Nat × Nat) := gX4_init_22 ++ G_X8_init
def gX4_init_25 : List (Nat × Nat) := gX4_init_24 ++ [(48, 0)]
def gX4_init_26 : List (Nat × Nat) := gX4_init_24 ++ G_X8_init
def gX4_init_27 : List (Nat × Nat) := gX4_init_26 ++ [(48, 0)]
def gX4_init_28 : List (Nat × Nat) := gX4_init_26 ++ G_X8_init
def gX4_init_29 : List (Nat × Nat) := gX4_init_28 ++ [(48, 0)]
def gX4_init_30 : List (Nat × Nat) := gX4_init_28 ++ G_X8_init
def gX4_init_31 : List (Nat × Nat) := gX4_init_30 ++ [(48, 0)]
def gX4_init_32 : List (Nat × Nat) := gX4_init_30 ++ G_X8_init
def gX4_init_33 : List (Nat × Nat) := gX4_init_32 ++ [(48, 0)]
def gX4_init_34 : List (Nat × Nat) := gX4_init_32 ++ G_X8_init
def G_X4_init : List (Nat × Nat) := [(4, 0), (30, 16), (20, 16), (8, 0), (21, 2), (20, 2), (20, 8), (8, 0), (21, 2), (20, 2), (20, 8), (8, 0), (21, 2), (20, 2), (20, 8), (8, 0), (21, 2), (20, 2), (20, 8), (8, 0), (21, 2), (20, 2), (20, 8), (8, 0), (21, 2), (20, 2), (20, 8), (8, 0), (21, 2), (20, 2), (20, 8), (8, 0), (21, 2), (20, 2), (20, 8), (8, 0), (21, 2), (20, 2), (20, 8), (8, 0), (21, 2), (20, 2), (20, 8), (8, 0), (21, 2), (20, 2), (20, 8), (8, 0), (21, 2), (20, 2), (20, 8), (8, 0), (21, 2), (20, 2), (20, 8), (8, 0), (21, 2), (20, 2), (20, 8), (8, 0), (21, 2), (20, 2), (20, 8), (8, 0), (21, 2), (20, 2), (20, 8)]
abbrev yX4_init : MethodName := ({ cls := "CribbageRoom$History", name := "<init>", desc := "()V" } : Jvm.MethodName)
def tbX4_init : List (Nat × Instr × Nat) := [(0, .aload_n 0, 1), (1, .invokespecial 3, 3), (4, .aload_n 0, 1), (5, .bipush 16, 2), (7, .anewarray 11, 3), (10, .putfield 13, 3), (13, .aload_n 0, 1), (14, .bipush 16, 2), (16, .newarray .int, 2), (18, .putfield 17, 3), (21, .iconst 0, 1), (22, .istore_n 1, 1), (23, .iload_n 1, 1), (24, .bipush 16, 2), (26, .if_icmp .ge 22, 3), (29, .aload_n 0, 1), (30, .getfield 13, 3), (33, .iload_n 1, 1), (34, .new 11, 3), (37, .dup, 1), (38, .invokespecial 21, 3), (41, .aastore, 1), (42, .iinc 1 1, 3), (45, .goto (-22), 3), (48, .return_, 1)]
theorem dX4_init : ∀ q ∈ tbX4_init, decode prog_6_method_1_code q.1 = .ok q.2 := by decide +kernel
set_option maxRecDepth 50000 in
set_option maxHeartbeats 4000000 in
theorem cX4_init (l : Launch) (w : WX) (t : Nat) (hb : Bel w t) (hz : wz w ≤ t) (hL : Lay w) (M : Mem) : CtI l w t 4 yX4_init prog_6_method_1_code 2 2 40 66 432 [.ref t] (put M t 67 UZ_X4_init) G_X4_init (put M t 67 T_X4_init) := by
  refine ctI_of (by decide) rfl (Nat.le_of_ble_eq_true rfl) (fun x hl hsz hR hin hx0 hb9 => ?_)
  subst hl
  have hd : ∀ i, DAt (xc x).code (tbX4_init[i]?) := fun i => by rw [hb9]; exact dat_of dX4_init i
  show C (xat x 0 0) (wg w t gX4_init_0) (Qi x w t G_X4_init (put M t 67 T_X4_init) 66 432) 2 0 [(0, .ref t)] [] (put M t 67 UZ_X4_init) (some ())
  refine z_as (U' := (wr vX4_init_0 (qX4_init_0 t))) rfl ?_
  have zr0 : Zr UZ_X4_init (wr vX4_init_0 (qX4_init_0 t)) 1 := Zr.z0 rfl rfl rfl rfl
  have rn0 : Rny (wr vX4_init_0 (qX4_init_0 t)) [0, 1] := Rny.z9 rfl
  refine r_aload_n (pc' := 1) hx0 (hd 0) rfl 0 rfl rfl ?_
  refine q_objI hx0 (hd 1) mlI_4_3 ob_in ob_cd ⟨Nat.le_of_ble_eq_true rfl, Nat.le_of_ble_eq_true rfl⟩ (Nat.le_of_ble_eq_true rfl) ?_
  refine r_pcA (pc' := 4) rfl ?_
  refine r_aload_n (pc' := 5) hx0 (hd 2) rfl 0 rfl rfl ?_
  refine r_bipush (pc' := 7) (v := 16) hx0 (hd 3) (by decide) rfl ?_
  refine q_anew (G := gX4_init_0) (K := 0) (N := 0) (kd := 63) (c := 3) (n := 16) (o := 1) rfl hb hz (by decide) (by rw [hsz]; exact (by omega : t + 1 + 0 = t + 1)) hx0 (hd 4) cl_4_11 ao_Table rfl (by decide) (by decide) (by decide) (by rw [hR.1]; decide) (by rw [hR.2]; decide) (ce_refs (c := 3) (G := gX4_init_0) (S := 67) (by decide) (zr0 1 (by decide)).2.2.1) (nr_put (by decide) (zr0 1 (by decide)).2.2.1) ?_
  have hx1 : Ok _ 2 none _ _ (wg w t gX4_init_1) (xat x 1 16) := ok_grow (w' := wg w t gX4_init_1) hx0 rfl rfl rfl rfl (lay_wg hL hb (by decide +kernel)) (by rw [hR.1]; decide) (by rw [hR.2]; decide)
  refine z_putR (pc' := 13) (o := 1) (by decide) hx1 (hd 5) hin fw_4_13 (wat_new (G := gX4_init_1) (o := 0) (kd := 40 + 4) (n := 0) (by decide +kernel)) rfl (by decide) rfl rfl rfl ?_
  refine z_as (U' := (wr vX4_init_1 (qX4_init_1 t))) ((wrR ..).trans rfl) ?_
  have zr1 : Zr UZ_X4_init (wr vX4_init_1 (qX4_init_1 t)) 2 := Zr.cR zr0 (by decide)
  have rn1 : Rny (wr vX4_init_1 (qX4_init_1 t)) [0, 1] := Rny.cR rn0 (by decide)
  refine r_aload_n (pc' := 14) hx1 (hd 6) rfl 0 rfl rfl ?_
  refine r_bipush (pc' := 16) (v := 16) hx1 (hd 7) (by decide) rfl ?_
  refine q_newa (gn := 16) (G := gX4_init_1) (K := 1) (N := 16) (kd := 20) (c := 0) (n := 16) (o := 2) (ty := .int) (e9 := .inl (fun _ => 0)) rfl hb hz (by decide) (by rw [hsz]; exact (by omega : t + 1 + 1 = t + 2)) hx1 (hd 8) rfl ar_int rfl (fun _ _ h => h) (by decide) (by decide) (by decide) (by rw [hR.1]; decide) (by rw [hR.2]; decide) (fun _ => rfl) (ce_int (by decide) (zr1 2 (by decide)).1) (nr_put (by decide) (zr1 2 (by decide)).2.2.1) ?_
  have hx2 : Ok _ 2 none _ _ (wg w t gX4_init_2) (xat x 2 32) := ok_grow (w' := wg w t gX4_init_2) hx1 rfl rfl rfl rfl (lay_wg hL hb (by decide +kernel)) (by rw [hR.1]; decide) (by rw [hR.2]; decide)
  refine z_putR (pc' := 21) (o := 2) (by decide) hx2 (hd 9) hin fw_4_17 (wat_new (G := gX4_init_2) (o := 0) (kd := 40 + 4) (n := 0) (by decide +kernel)) rfl (by decide) rfl rfl rfl ?_
  refine z_as (U' := (wr vX4_init_2 (qX4_init_2 t))) ((wrR ..).trans rfl) ?_
  have zr2 : Zr UZ_X4_init (wr vX4_init_2 (qX4_init_2 t)) 3 := Zr.cR zr1 (by decide)
  have rn2 : Rny (wr vX4_init_2 (qX4_init_2 t)) [0, 1] := Rny.cR rn1 (by decide)
  refine r_iconst (pc' := 22) (v := 0) hx2 (hd 10) (by decide) rfl ?_
  refine r_istore_n (pc' := 23) (L' := [(1, .int 0), (0, .ref t)]) hx2 (hd 11) rfl (by decide) rfl rfl ?_
  refine r_iload_n (pc' := 24) hx2 (hd 12) rfl 0 rfl rfl ?_
  refine r_bipush (pc' := 26) (v := 16) hx2 (hd 13) (by decide) rfl ?_
  refine z_geF (pc' := 29) 48 hx2 (hd 14) (by decide) (by decide) rfl ?_
  refine r_aload_n (pc' := 30) hx2 (hd 15) rfl 1 rfl rfl ?_
  refine z_getR (pc' := 33) (o := 1) (by decide) hx2 (hd 16) flI_4_13 (wat_new (G := gX4_init_2) (o := 0) (kd := 40 + 4) (n := 0) (by decide +kernel)) rfl rfl (by decide) rfl ?_
  refine r_iload_n (pc' := 34) hx2 (hd 17) rfl 0 rfl rfl ?_
  refine q_newO (G := gX4_init_2) (K := 2) (N := 32) (ci := 8) (o := 3) tyX8 rfl hb hz (by decide) (by rw [hsz]; exact (by omega : t + 1 + 2 = t + 3)) hx2 (hd 18) rfl inX8 tyX8_ok cl_4_11 ins_8 ini_8 (by decide) (by rw [hR.1]; decide) (by rw [hR.2]; decide) ((put_at (by decide)).1.trans (zr2 3 (by decide)).1) ((put_at (by decide)).2.1.trans (zr2 3 (by decide)).2.1) ((put_at (by decide)).2.2.1.trans (zr2 3 (by decide)).2.2.1) dvX8 ?_
  have hx3 : Ok _ 2 none _ _ (wg w t gX4_init_3) (xat x 3 45) := ok_grow (w' := wg w t gX4_init_3) hx2 rfl rfl rfl rfl (lay_wg hL hb (by decide +kernel)) (by rw [hR.1]; decide) (by rw [hR.2]; decide)
  refine r_dup (pc' := 38) hx3 (hd 19) rfl rfl ?_
  refine z_pre (G0 := gX4_init_2) (o := 3) (s := 4) (U0 := UZ_X8_init) hb rfl (by decide) ((zr2 3 (by decide)).1.trans rfl) ((zr2 3 (by decide)).2.1.trans rfl) ((zr2 3 (by decide)).2.2.1.trans rfl) ((zr2 3 (by decide)).2.2.2.trans rfl) ?_
  refine q_callIN (G0 := gX4_init_2) (K := 3) (N := 45) (ci := 8) (o := 3) (As := []) (rest := [.ref (t + 3), .int 0, .ref (t + 1)]) rfl hb (by rw [hsz]; exact (by omega : t + 1 + 3 = t + 4)) hx3 (hd 20) mdI_X8_init rfl miI_X8_init mlI_4_21 (cX8_init (xl x) (wg w t gX4_init_2) (t + 3) (show Bel (wg w t gX4_init_2) (t + 3) from bel_wg hb) (Nat.le_trans hz (Nat.le_add_right _ _)) (lay_wg hL hb (by decide +kernel)) _) ⟨Nat.le_of_ble_eq_true rfl, Nat.le_of_ble_eq_true rfl⟩ (by rw [hR.1]; decide) (by rw [hR.2]; decide) rfl rfl (Nat.le_of_ble_eq_true rfl) ?_
  refine r_pcA (pc' := 41) rfl ?_
  refine z_post (by decide) ?_
  refine z_as (U' := (wr vX4_init_3 (qX4_init_3 t))) ((wrP ..).trans rfl) ?_
  have zr3 : Zr UZ_X4_init (wr vX4_init_3 (qX4_init_3 t)) 7 := Zr.cP zr2 (by decide) (by decide)
  have rn3 : Rny (wr vX4_init_3 (qX4_init_3 t)) [0, 1] := Rny.cP rn2 Rny.c
  have hx4 : Ok _ 2 none _ _ (wg w t gX4_init_4) (xat x 6 57) := ok_grow (w' := wg w t gX4_init_4) hx3 rfl rfl rfl rfl (lay_wg hL hb (by decide +kernel)) (by rw [hR.1]; decide) (by rw [hR.2]; decide)
  refine z_aast (pc' := 42) (k := 0) (c := 3) (ci := 8) (by decide) hx4 (hd 21) (wat_new (G := gX4_init_4) (o := 1) (kd := 60 + 3) (n := 16) (by decide +kernel)) (by decide) (by decide) (wat_new (G := gX4_init_4) (o := 3) (kd := 8) (n := 0) (by decide +kernel)) (by decide) rfl rfl rfl ?_
  refine z_as (U' := (wr vX4_init_4 (qX4_init_4 t))) ((wrR ..).trans rfl) ?_
  have zr4 : Zr UZ_X4_init (wr vX4_init_4 (qX4_init_4 t)) 7 := Zr.cR zr3 (by decide)
  have rn4 : Rny (wr vX4_init_4 (qX4_init_4 t)) [0, 1] := Rny.cR rn3 (by decide)
  refine z_iinc (pc' := 45) (v := 1) (L' := [(1, .int 1), (0, .ref t)]) (j := 0) hx4 (hd 22) rfl (by decide) (by decide) rfl rfl ?_
  refine r_goto (tgt := 23) hx4 (hd 23) (by decide) ?_
  refine r_iload_n (pc' := 24) hx4 (hd 12) rfl 0 rfl rfl ?_
  refine r_bipush (pc' := 26) (v := 16) hx4 (hd 13) (by decide) rfl ?_
  refine z_geF (pc' := 29) 48 hx4 (hd 14) (by decide) (by decide) rfl ?_
  refine r_aload_n (pc' := 30) hx4 (hd 15) rfl 1 rfl rfl ?_
  refine z_getR (pc' := 33) (o := 1) (by decide) hx4 (hd 16) flI_4_13 (wat_new (G := gX4_init_4) (o := 0) (kd := 40 + 4) (n := 0) (by decide +kernel)) rfl rfl (by decide) rfl ?_
  refine r_iload_n (pc' := 34) hx4 (hd 17) rfl 0 rfl rfl ?_
  refine q_newO (G := gX4_init_4) (K := 6) (N := 57) (ci := 8) (o := 7) tyX8 rfl hb hz (by decide) (by rw [hsz]; exact (by omega : t + 1 + 6 = t + 7)) hx4 (hd 18) rfl inX8 tyX8_ok cl_4_11 ins_8 ini_8 (by decide) (by rw [hR.1]; decide) (by rw [hR.2]; decide) ((put_at (by decide)).1.trans (zr4 7 (by decide)).1) ((put_at (by decide)).2.1.trans (zr4 7 (by decide)).2.1) ((put_at (by decide)).2.2.1.trans (zr4 7 (by decide)).2.2.1) dvX8 ?_
  have hx5 : Ok _ 2 none _ _ (wg w t gX4_init_5) (xat x 7 70) := ok_grow (w' := wg w t gX4_init_5) hx4 rfl rfl rfl rfl (lay_wg hL hb (by decide +kernel)) (by rw [hR.1]; decide) (by rw [hR.2]; decide)
  refine r_dup (pc' := 38) hx5 (hd 19) rfl rfl ?_
  refine z_pre (G0 := gX4_init_4) (o := 7) (s := 4) (U0 := UZ_X8_init) hb rfl (by decide) ((zr4 7 (by decide)).1.trans rfl) ((zr4 7 (by decide)).2.1.trans rfl) ((zr4 7 (by decide)).2.2.1.trans rfl) ((zr4 7 (by decide)).2.2.2.trans rfl) ?_
  refine q_callIN (G0 := gX4_init_4) (K := 7) (N := 70) (ci := 8) (o := 7) (As := []) (rest := [.ref (t + 7), .int 1, .ref (t + 1)]) rfl hb (by rw [hsz]; exact (by omega : t + 1 + 7 = t + 8)) hx5 (hd 20) mdI_X8_init rfl miI_X8_init mlI_4_21 (cX8_init (xl x) (wg w t gX4_init_4) (t + 7) (show Bel (wg w t gX4_init_4) (t + 7) from bel_wg hb) (Nat.le_trans hz (Nat.le_add_right _ _)) (lay_wg hL hb (by decide +kernel)) _) ⟨Nat.le_of_ble_eq_true rfl, Nat.le_of_ble_eq_true rfl⟩ (by rw [hR.1]; decide) (by rw [hR.2]; decide) rfl rfl (Nat.le_of_ble_eq_true rfl) ?_
  refine r_pcA (pc' := 41) rfl ?_
  refine z_post (by decide) ?_
  refine z_as (U' := (wr vX4_init_5 (qX4_init_5 t))) ((wrP ..).trans rfl) ?_
  have zr5 : Zr UZ_X4_init (wr vX4_init_5 (qX4_init_5 t)) 11 := Zr.cP zr4 (by decide) (by decide)
  have rn5 : Rny (wr vX4_init_5 (qX4_init_5 t)) [0, 1] := Rny.cP rn4 Rny.c
  have hx6 : Ok _ 2 none _ _ (wg w t gX4_init_6) (xat x 10 82) := ok_grow (w' := wg w t gX4_init_6) hx5 rfl rfl rfl rfl (lay_wg hL hb (by decide +kernel)) (by rw [hR.1]; decide) (by rw [hR.2]; decide)
  refine z_aast (pc' := 42) (k := 1) (c := 3) (ci := 8) (by decide) hx6 (hd 21) (wat_new (G := gX4_init_6) (o := 1) (kd := 60 + 3) (n := 16) (by decide +kernel)) (by decide) (by decide) (wat_new (G := gX4_init_6) (o := 7) (kd := 8) (n := 0) (by decide +kernel)) (by decide) rfl rfl rfl ?_
  refine z_as (U' := (wr vX4_init_6 (qX4_init_6 t))) ((wrR ..).trans rfl) ?_
  have zr6 : Zr UZ_X4_init (wr vX4_init_6 (qX4_init_6 t)) 11 := Zr.cR zr5 (by decide)
  have rn6 : Rny (wr vX4_init_6 (qX4_init_6 t)) [0, 1] := Rny.cR rn5 (by decide)
  refine z_iinc (pc' := 45) (v := 2) (L' := [(1, .int 2), (0, .ref t)]) (j := 0) hx6 (hd 22) rfl (by decide) (by decide) rfl rfl ?_
  refine r_goto (tgt := 23) hx6 (hd 23) (by decide) ?_
  refine r_iload_n (pc' := 24) hx6 (hd 12) rfl 0 rfl rfl ?_
  refine r_bipush (pc' := 26) (v := 16) hx6 (hd 13) (by decide) rfl ?_
  refine z_geF (pc' := 29) 48 hx6 (hd 14) (by decide) (by decide) rfl ?_
  refine r_aload_n (pc' := 30) hx6 (hd 15) rfl 1 rfl rfl ?_
  refine z_getR (pc' := 33) (o := 1) (by decide) hx6 (hd 16) flI_4_13 (wat_new (G := gX4_init_6) (o := 0) (kd := 40 + 4) (n := 0) (by decide +kernel)) rfl rfl (by decide) rfl ?_
  refine r_iload_n (pc' := 34) hx6 (hd 17) rfl 0 rfl rfl ?_
  refine q_newO (G := gX4_init_6) (K := 10) (N := 82) (ci := 8) (o := 11) tyX8 rfl hb hz (by decide) (by rw [hsz]; exact (by omega : t + 1 + 10 = t + 11)) hx6 (hd 18) rfl inX8 tyX8_ok cl_4_11 ins_8 ini_8 (by decide) (by rw [hR.1]; decide) (by rw [hR.2]; decide) ((put_at (by decide)).1.trans (zr6 11 (by decide)).1) ((put_at (by decide)).2.1.trans (zr6 11 (by decide)).2.1) ((put_at (by decide)).2.2.1.trans (zr6 11 (by decide)).2.2.1) dvX8 ?_
  have hx7 : Ok _ 2 none _ _ (wg w t gX4_init_7) (xat x 11 95) := ok_grow (w' := wg w t gX4_init_7) hx6 rfl rfl rfl rfl (lay_wg hL hb (by decide +kernel)) (by rw [hR.1]; decide) (by rw [hR.2]; decide)
  refine r_dup (pc' := 38) hx7 (hd 19) rfl rfl ?_
  refine z_pre (G0 := gX4_init_6) (o := 11) (s := 4) (U0 := UZ_X8_init) hb rfl (by decide) ((zr6 11 (by decide)).1.trans rfl) ((zr6 11 (by decide)).2.1.trans rfl) ((zr6 11 (by decide)).2.2.1.trans rfl) ((zr6 11 (by decide)).2.2.2.trans rfl) ?_
  refine q_callIN (G0 := gX4_init_6) (K := 11) (N := 95) (ci := 8) (o := 11) (As := []) (rest := [.ref (t + 11), .int 2, .ref (t + 1)]) rfl hb (by rw [hsz]; exact (by omega : t + 1 + 11 = t + 12)) hx7 (hd 20) mdI_X8_init rfl miI_X8_init mlI_4_21 (cX8_init (xl x) (wg w t gX4_init_6) (t + 11) (show Bel (wg w t gX4_init_6) (t + 11) from bel_wg hb) (Nat.le_trans hz (Nat.le_add_right _ _)) (lay_wg hL hb (by decide +kernel)) _) ⟨Nat.le_of_ble_eq_true rfl, Nat.le_of_ble_eq_true rfl⟩ (by rw [hR.1]; decide) (by rw [hR.2]; decide) rfl rfl (Nat.le_of_ble_eq_true rfl) ?_
  refine r_pcA (pc' := 41) rfl ?_
  refine z_post (by decide) ?_
  refine z_as (U' := (wr vX4_init_7 (qX4_init_7 t))) ((wrP ..).trans rfl) ?_
  have zr7 : Zr UZ_X4_init (wr vX4_init_7 (qX4_init_7 t)) 15 := Zr.cP zr6 (by decide) (by decide)
  have rn7 : Rny (wr vX4_init_7 (qX4_init_7 t)) [0, 1] := Rny.cP rn6 Rny.c
  have hx8 : Ok _ 2 none _ _ (wg w t gX4_init_8) (xat x 14 107) := ok_grow (w' := wg w t gX4_init_8) hx7 rfl rfl rfl rfl (lay_wg hL hb (by decide +kernel)) (by rw [hR.1]; decide) (by rw [hR.2]; decide)
  refine z_aast (pc' := 42) (k := 2) (c := 3) (ci := 8) (by decide) hx8 (hd 21) (wat_new (G := gX4_init_8) (o := 1) (kd := 60 + 3) (n := 16) (by decide +kernel)) (by decide) (by decide) (wat_new (G := gX4_init_8) (o := 11) (kd := 8) (n := 0) (by decide +kernel)) (by decide) rfl rfl rfl ?_
  refine z_as (U' := (wr vX4_init_8 (qX4_init_8 t))) ((wrR ..).trans rfl) ?_
  have zr8 : Zr UZ_X4_init (wr vX4_init_8 (qX4_init_8 t)) 15 := Zr.cR zr7 (by decide)
  have rn8 : Rny (wr vX4_init_8 (qX4_init_8 t)) [0, 1] := Rny.cR rn7 (by decide)
  refine z_iinc (pc' := 45) (v := 3) (L' := [(1, .int 3), (0, .ref t)]) (j := 0) hx8 (hd 22) rfl (by decide) (by decide) rfl rfl ?_
  refine r_goto (tgt := 23) hx8 (hd 23) (by decide) ?_
  refine r_iload_n (pc' := 24) hx8 (hd 12) rfl 0 rfl rfl ?_
  refine r_bipush (pc' := 26) (v := 16) hx8 (hd 13) (by decide) rfl ?_
  refine z_geF (pc' := 29) 48 hx8 (hd 14) (by decide) (by decide) rfl ?_
  refine r_aload_n (pc' := 30) hx8 (hd 15) rfl 1 rfl rfl ?_
  refine z_getR (pc' := 33) (o := 1) (by decide) hx8 (hd 16) flI_4_13 (wat_new (G := gX4_init_8) (o := 0) (kd := 40 + 4) (n := 0) (by decide +kernel)) rfl rfl (by decide) rfl ?_
  refine r_iload_n (pc' := 34) hx8 (hd 17) rfl 0 rfl rfl ?_
  refine q_newO (G := gX4_init_8) (K := 14) (N := 107) (ci := 8) (o := 15) tyX8 rfl hb hz (by decide) (by rw [hsz]; exact (by omega : t + 1 + 14 = t + 15)) hx8 (hd 18) rfl inX8 tyX8_ok cl_4_11 ins_8 ini_8 (by decide) (by rw [hR.1]; decide) (by rw [hR.2]; decide) ((put_at (by decide)).1.trans (zr8 15 (by decide)).1) ((put_at (by decide)).2.1.trans (zr8 15 (by decide)).2.1) ((put_at (by decide)).2.2.1.trans (zr8 15 (by decide)).2.2.1) dvX8 ?_
  have hx9 : Ok _ 2 none _ _ (wg w t gX4_init_9) (xat x 15 120) := ok_grow (w' := wg w t gX4_init_9) hx8 rfl rfl rfl rfl (lay_wg hL hb (by decide +kernel)) (by rw [hR.1]; decide) (by rw [hR.2]; decide)
  refine r_dup (pc' := 38) hx9 (hd 19) rfl rfl ?_
  refine z_pre (G0 := gX4_init_8) (o := 15) (s := 4) (U0 := UZ_X8_init) hb rfl (by decide) ((zr8 15 (by decide)).1.trans rfl) ((zr8 15 (by decide)).2.1.trans rfl) ((zr8 15 (by decide)).2.2.1.trans rfl) ((zr8 15 (by decide)).2.2.2.trans rfl) ?_
  refine q_callIN (G0 := gX4_init_8) (K := 15) (N := 120) (ci := 8) (o := 15) (As := []) (rest := [.ref (t + 15), .int 3, .ref (t + 1)]) rfl hb (by rw [hsz]; exact (by omega : t + 1 + 15 = t + 16)) hx9 (hd 20) mdI_X8_init rfl miI_X8_init mlI_4_21 (cX8_init (xl x) (wg w t gX4_init_8) (t + 15) (show Bel (wg w t gX4_init_8) (t + 15) from bel_wg hb) (Nat.le_trans hz (Nat.le_add_right _ _)) (lay_wg hL hb (by decide +kernel)) _) ⟨Nat.le_of_ble_eq_true rfl, Nat.le_of_ble_eq_true rfl⟩ (by rw [hR.1]; decide) (by rw [hR.2]; decide) rfl rfl (Nat.le_of_ble_eq_true rfl) ?_
  refine r_pcA (pc' := 41) rfl ?_
  refine z_post (by decide) ?_
  refine z_as (U' := (wr vX4_init_9 (qX4_init_9 t))) ((wrP ..).trans rfl) ?_
  have zr9 : Zr UZ_X4_init (wr vX4_init_9 (qX4_init_9 t)) 19 := Zr.cP zr8 (by decide) (by decide)
  have rn9 : Rny (wr vX4_init_9 (qX4_init_9 t)) [0, 1] := Rny.cP rn8 Rny.c
  have hx10 : Ok _ 2 none _ _ (wg w t gX4_init_10) (xat x 18 132) := ok_grow (w' := wg w t gX4_init_10) hx9 rfl rfl rfl rfl (lay_wg hL hb (by decide +kernel)) (by rw [hR.1]; decide) (by rw [hR.2]; decide)
  refine z_aast (pc' := 42) (k := 3) (c := 3) (ci := 8) (by decide) hx10 (hd 21) (wat_new (G := gX4_init_10) (o := 1) (kd := 60 + 3) (n := 16) (by decide +kernel)) (by decide) (by decide) (wat_new (G := gX4_init_10) (o := 15) (kd := 8) (n := 0) (by decide +kernel)) (by decide) rfl rfl rfl ?_
  refine z_as (U' := (wr vX4_init_10 (qX4_init_10 t))) ((wrR ..).trans rfl) ?_
  have zr10 : Zr UZ_X4_init (wr vX4_init_10 (qX4_init_10 t)) 19 := Zr.cR zr9 (by decide)
  have rn10 : Rny (wr vX4_init_10 (qX4_init_10 t)) [0, 1] := Rny.cR rn9 (by decide)
  refine z_iinc (pc' := 45) (v := 4) (L' := [(1, .int 4), (0, .ref t)]) (j := 0) hx10 (hd 22) rfl (by decide) (by decide) rfl rfl ?_
  refine r_goto (tgt := 23) hx10 (hd 23) (by decide) ?_
  refine r_iload_n (pc' := 24) hx10 (hd 12) rfl 0 rfl rfl ?_
  refine r_bipush (pc' := 26) (v := 16) hx10 (hd 13) (by decide) rfl ?_
  refine z_geF (pc' := 29) 48 hx10 (hd 14) (by decide) (by decide) rfl ?_
  refine r_aload_n (pc' := 30) hx10 (hd 15) rfl 1 rfl rfl ?_
  refine z_getR (pc' := 33) (o := 1) (by decide) hx10 (hd 16) flI_4_13 (wat_new (G := gX4_init_10) (o := 0) (kd := 40 + 4) (n := 0) (by decide +kernel)) rfl rfl (by decide) rfl ?_
  refine r_iload_n (pc' := 34) hx10 (hd 17) rfl 0 rfl rfl ?_
  refine q_newO (G := gX4_init_10) (K := 18) (N := 132) (ci := 8) (o := 19) tyX8 rfl hb hz (by decide) (by rw [hsz]; exact (by omega : t + 1 + 18 = t + 19)) hx10 (hd 18) rfl inX8 tyX8_ok cl_4_11 ins_8 ini_8 (by decide) (by rw [hR.1]; decide) (by rw [hR.2]; decide) ((put_at (by decide)).1.trans (zr10 19 (by decide)).1) ((put_at (by decide)).2.1.trans (zr10 19 (by decide)).2.1) ((put_at (by decide)).2.2.1.trans (zr10 19 (by decide)).2.2.1) dvX8 ?_
  have hx11 : Ok _ 2 none _ _ (wg w t gX4_init_11) (xat x 19 145) := ok_grow (w' := wg w t gX4_init_11) hx10 rfl rfl rfl rfl (lay_wg hL hb (by decide +kernel)) (by rw [hR.1]; decide) (by rw [hR.2]; decide)
  refine r_dup (pc' := 38) hx11 (hd 19) rfl rfl ?_
  refine z_pre (G0 := gX4_init_10) (o := 19) (s := 4) (U0 := UZ_X8_init) hb rfl (by decide) ((zr10 19 (by decide)).1.trans rfl) ((zr10 19 (by decide)).2.1.trans rfl) ((zr10 19 (by decide)).2.2.1.trans rfl) ((zr10 19 (by decide)).2.2.2.trans rfl) ?_
  refine q_callIN (G0 := gX4_init_10) (K := 19) (N := 145) (ci := 8) (o := 19) (As := []) (rest := [.ref (t + 19), .int 4, .ref (t + 1)]) rfl hb (by rw [hsz]; exact (by omega : t + 1 + 19 = t + 20)) hx11 (hd 20) mdI_X8_init rfl miI_X8_init mlI_4_21 (cX8_init (xl x) (wg w t gX4_init_10) (t + 19) (show Bel (wg w t gX4_init_10) (t + 19) from bel_wg hb) (Nat.le_trans hz (Nat.le_add_right _ _)) (lay_wg hL hb (by decide +kernel)) _) ⟨Nat.le_of_ble_eq_true rfl, Nat.le_of_ble_eq_true rfl⟩ (by rw [hR.1]; decide) (by rw [hR.2]; decide) rfl rfl (Nat.le_of_ble_eq_true rfl) ?_
  refine r_pcA (pc' := 41) rfl ?_
  refine z_post (by decide) ?_
  refine z_as (U' := (wr vX4_init_11 (qX4_init_11 t))) ((wrP ..).trans rfl) ?_
  have zr11 : Zr UZ_X4_init (wr vX4_init_11 (qX4_init_11 t)) 23 := Zr.cP zr10 (by decide) (by decide)
  have rn11 : Rny (wr vX4_init_11 (qX4_init_11 t)) [0, 1] := Rny.cP rn10 Rny.c
  have hx12 : Ok _ 2 none _ _ (wg w t gX4_init_12) (xat x 22 157) := ok_grow (w' := wg w t gX4_init_12) hx11 rfl rfl rfl rfl (lay_wg hL hb (by decide +kernel)) (by rw [hR.1]; decide) (by rw [hR.2]; decide)
  refine z_aast (pc' := 42) (k := 4) (c := 3) (ci := 8) (by decide) hx12 (hd 21) (wat_new (G := gX4_init_12) (o := 1) (kd := 60 + 3) (n := 16) (by decide +kernel)) (by decide) (by decide) (wat_new (G := gX4_init_12) (o := 19) (kd := 8) (n := 0) (by decide +kernel)) (by decide) rfl rfl rfl ?_
  refine z_as (U' := (wr vX4_init_12 (qX4_init_12 t))) ((wrR ..).trans rfl) ?_
  have zr12 : Zr UZ_X4_init (wr vX4_init_12 (qX4_init_12 t)) 23 := Zr.cR zr11 (by decide)
  have rn12 : Rny (wr vX4_init_12 (qX4_init_12 t)) [0, 1] := Rny.cR rn11 (by decide)
  refine z_iinc (pc' := 45) (v := 5) (L' := [(1, .int 5), (0, .ref t)]) (j := 0) hx12 (hd 22) rfl (by decide) (by decide) rfl rfl ?_
  refine r_goto (tgt := 23) hx12 (hd 23) (by decide) ?_
  refine r_iload_n (pc' := 24) hx12 (hd 12) rfl 0 rfl rfl ?_
  refine r_bipush (pc' := 26) (v := 16) hx12 (hd 13) (by decide) rfl ?_
  refine z_geF (pc' := 29) 48 hx12 (hd 14) (by decide) (by decide) rfl ?_
  refine r_aload_n (pc' := 30) hx12 (hd 15) rfl 1 rfl rfl ?_
  refine z_getR (pc' := 33) (o := 1) (by decide) hx12 (hd 16) flI_4_13 (wat_new (G := gX4_init_12) (o := 0) (kd := 40 + 4) (n := 0) (by decide +kernel)) rfl rfl (by decide) rfl ?_
  refine r_iload_n (pc' := 34) hx12 (hd 17) rfl 0 rfl rfl ?_
  refine q_newO (G := gX4_init_12) (K := 22) (N := 157) (ci := 8) (o := 23) tyX8 rfl hb hz (by decide) (by rw [hsz]; exact (by omega : t + 1 + 22 = t + 23)) hx12 (hd 18) rfl inX8 tyX8_ok cl_4_11 ins_8 ini_8 (by decide) (by rw [hR.1]; decide) (by rw [hR.2]; decide) ((put_at (by decide)).1.trans (zr12 23 (by decide)).1) ((put_at (by decide)).2.1.trans (zr12 23 (by decide)).2.1) ((put_at (by decide)).2.2.1.trans (zr12 23 (by decide)).2.2.1) dvX8 ?_
  have hx13 : Ok _ 2 none _ _ (wg w t gX4_init_13) (xat x 23 170) := ok_grow (w' := wg w t gX4_init_13) hx12 rfl rfl rfl rfl (lay_wg hL hb (by decide +kernel)) (by rw [hR.1]; decide) (by rw [hR.2]; decide)
  refine r_dup (pc' := 38) hx13 (hd 19) rfl rfl ?_
  refine z_pre (G0 := gX4_init_12) (o := 23) (s := 4) (U0 := UZ_X8_init) hb rfl (by decide) ((zr12 23 (by decide)).1.trans rfl) ((zr12 23 (by decide)).2.1.trans rfl) ((zr12 23 (by decide)).2.2.1.trans rfl) ((zr12 23 (by decide)).2.2.2.trans rfl) ?_
  refine q_callIN (G0 := gX4_init_12) (K := 23) (N := 170) (ci := 8) (o := 23) (As := []) (rest := [.ref (t + 23), .int 5, .ref (t + 1)]) rfl hb (by rw [hsz]; exact (by omega : t + 1 + 23 = t + 24)) hx13 (hd 20) mdI_X8_init rfl miI_X8_init mlI_4_21 (cX8_init (xl x) (wg w t gX4_init_12) (t + 23) (show Bel (wg w t gX4_init_12) (t + 23) from bel_wg hb) (Nat.le_trans hz (Nat.le_add_right _ _)) (lay_wg hL hb (by decide +kernel)) _) ⟨Nat.le_of_ble_eq_true rfl, Nat.le_of_ble_eq_true rfl⟩ (by rw [hR.1]; decide) (by rw [hR.2]; decide) rfl rfl (Nat.le_of_ble_eq_true rfl) ?_
  refine r_pcA (pc' := 41) rfl ?_
  refine z_post (by decide) ?_
  refine z_as (U' := (wr vX4_init_13 (qX4_init_13 t))) ((wrP ..).trans rfl) ?_
  have zr13 : Zr UZ_X4_init (wr vX4_init_13 (qX4_init_13 t)) 27 := Zr.cP zr12 (by decide) (by decide)
  have rn13 : Rny (wr vX4_init_13 (qX4_init_13 t)) [0, 1] := Rny.cP rn12 Rny.c
  have hx14 : Ok _ 2 none _ _ (wg w t gX4_init_14) (xat x 26 182) := ok_grow (w' := wg w t gX4_init_14) hx13 rfl rfl rfl rfl (lay_wg hL hb (by decide +kernel)) (by rw [hR.1]; decide) (by rw [hR.2]; decide)
  refine z_aast (pc' := 42) (k := 5) (c := 3) (ci := 8) (by decide) hx14 (hd 21) (wat_new (G := gX4_init_14) (o := 1) (kd := 60 + 3) (n := 16) (by decide +kernel)) (by decide) (by decide) (wat_new (G := gX4_init_14) (o := 23) (kd := 8) (n := 0) (by decide +kernel)) (by decide) rfl rfl rfl ?_
  refine z_as (U' := (wr vX4_init_14 (qX4_init_14 t))) ((wrR ..).trans rfl) ?_
  have zr14 : Zr UZ_X4_init (wr vX4_init_14 (qX4_init_14 t)) 27 := Zr.cR zr13 (by decide)
  have rn14 : Rny (wr vX4_init_14 (qX4_init_14 t)) [0, 1] := Rny.cR rn13 (by decide)
  refine z_iinc (pc' := 45) (v := 6) (L' := [(1, .int 6), (0, .ref t)]) (j := 0) hx14 (hd 22) rfl (by decide) (by decide) rfl rfl ?_
  refine r_goto (tgt := 23) hx14 (hd 23) (by decide) ?_
  refine r_iload_n (pc' := 24) hx14 (hd 12) rfl 0 rfl rfl ?_
  refine r_bipush (pc' := 26) (v := 16) hx14 (hd 13) (by decide) rfl ?_
  refine z_geF (pc' := 29) 48 hx14 (hd 14) (by decide) (by decide) rfl ?_
  refine r_aload_n (pc' := 30) hx14 (hd 15) rfl 1 rfl rfl ?_
  refine z_getR (pc' := 33) (o := 1) (by decide) hx14 (hd 16) flI_4_13 (wat_new (G := gX4_init_14) (o := 0) (kd := 40 + 4) (n := 0) (by decide +kernel)) rfl rfl (by decide) rfl ?_
  refine r_iload_n (pc' := 34) hx14 (hd 17) rfl 0 rfl rfl ?_
  refine q_newO (G := gX4_init_14) (K := 26) (N := 182) (ci := 8) (o := 27) tyX8 rfl hb hz (by decide) (by rw [hsz]; exact (by omega : t + 1 + 26 = t + 27)) hx14 (hd 18) rfl inX8 tyX8_ok cl_4_11 ins_8 ini_8 (by decide) (by rw [hR.1]; decide) (by rw [hR.2]; decide) ((put_at (by decide)).1.trans (zr14 27 (by decide)).1) ((put_at (by decide)).2.1.trans (zr14 27 (by decide)).2.1) ((put_at (by decide)).2.2.1.trans (zr14 27 (by decide)).2.2.1) dvX8 ?_
  have hx15 : Ok _ 2 none _ _ (wg w t gX4_init_15) (xat x 27 195) := ok_grow (w' := wg w t gX4_init_15) hx14 rfl rfl rfl rfl (lay_wg hL hb (by decide +kernel)) (by rw [hR.1]; decide) (by rw [hR.2]; decide)
  refine r_dup (pc' := 38) hx15 (hd 19) rfl rfl ?_
  refine z_pre (G0 := gX4_init_14) (o := 27) (s := 4) (U0 := UZ_X8_init) hb rfl (by decide) ((zr14 27 (by decide)).1.trans rfl) ((zr14 27 (by decide)).2.1.trans rfl) ((zr14 27 (by decide)).2.2.1.trans rfl) ((zr14 27 (by decide)).2.2.2.trans rfl) ?_
  refine q_callIN (G0 := gX4_init_14) (K := 27) (N := 195) (ci := 8) (o := 27) (As := []) (rest := [.ref (t + 27), .int 6, .ref (t + 1)]) rfl hb (by rw [hsz]; exact (by omega : t + 1 + 27 = t + 28)) hx15 (hd 20) mdI_X8_init rfl miI_X8_init mlI_4_21 (cX8_init (xl x) (wg w t gX4_init_14) (t + 27) (show Bel (wg w t gX4_init_14) (t + 27) from bel_wg hb) (Nat.le_trans hz (Nat.le_add_right _ _)) (lay_wg hL hb (by decide +kernel)) _) ⟨Nat.le_of_ble_eq_true rfl, Nat.le_of_ble_eq_true rfl⟩ (by rw [hR.1]; decide) (by rw [hR.2]; decide) rfl rfl (Nat.le_of_ble_eq_true rfl) ?_
  refine r_pcA (pc' := 41) rfl ?_
  refine z_post (by decide) ?_
  refine z_as (U' := (wr vX4_init_15 (qX4_init_15 t))) ((wrP ..).trans rfl) ?_
  have zr15 : Zr UZ_X4_init (wr vX4_init_15 (qX4_init_15 t)) 31 := Zr.cP zr14 (by decide) (by decide)
  have rn15 : Rny (wr vX4_init_15 (qX4_init_15 t)) [0, 1] := Rny.cP rn14 Rny.c
  have hx16 : Ok _ 2 none _ _ (wg w t gX4_init_16) (xat x 30 207) := ok_grow (w' := wg w t gX4_init_16) hx15 rfl rfl rfl rfl (lay_wg hL hb (by decide +kernel)) (by rw [hR.1]; decide) (by rw [hR.2]; decide)
  refine z_aast (pc' := 42) (k := 6) (c := 3) (ci := 8) (by decide) hx16 (hd 21) (wat_new (G := gX4_init_16) (o := 1) (kd := 60 + 3) (n := 16) (by decide +kernel)) (by decide) (by decide) (wat_new (G := gX4_init_16) (o := 27) (kd := 8) (n := 0) (by decide +kernel)) (by decide) rfl rfl rfl ?_
  refine z_as (U' := (wr vX4_init_16 (qX4_init_16 t))) ((wrR ..).trans rfl) ?_
  have zr16 : Zr UZ_X4_init (wr vX4_init_16 (qX4_init_16 t)) 31 := Zr.cR zr15 (by decide)
  have rn16 : Rny (wr vX4_init_16 (qX4_init_16 t)) [0, 1] := Rny.cR rn15 (by decide)
  refine z_iinc (pc' := 45) (v := 7) (L' := [(1, .int 7), (0, .ref t)]) (j := 0) hx16 (hd 22) rfl (by decide) (by decide) rfl rfl ?_
  refine r_goto (tgt := 23) hx16 (hd 23) (by decide) ?_
  refine r_iload_n (pc' := 24) hx16 (hd 12) rfl 0 rfl rfl ?_
  refine r_bipush (pc' := 26) (v := 16) hx16 (hd 13) (by decide) rfl ?_
  refine z_geF (pc' := 29) 48 hx16 (hd 14) (by decide) (by decide) rfl ?_
  refine r_aload_n (pc' := 30) hx16 (hd 15) rfl 1 rfl rfl ?_
  refine z_getR (pc' := 33) (o := 1) (by decide) hx16 (hd 16) flI_4_13 (wat_new (G := gX4_init_16) (o := 0) (kd := 40 + 4) (n := 0) (by decide +kernel)) rfl rfl (by decide) rfl ?_
  refine r_iload_n (pc' := 34) hx16 (hd 17) rfl 0 rfl rfl ?_
  refine q_newO (G := gX4_init_16) (K := 30) (N := 207) (ci := 8) (o := 31) tyX8 rfl hb hz (by decide) (by rw [hsz]; exact (by omega : t + 1 + 30 = t + 31)) hx16 (hd 18) rfl inX8 tyX8_ok cl_4_11 ins_8 ini_8 (by decide) (by rw [hR.1]; decide) (by rw [hR.2]; decide) ((put_at (by decide)).1.trans (zr16 31 (by decide)).1) ((put_at (by decide)).2.1.trans (zr16 31 (by decide)).2.1) ((put_at (by decide)).2.2.1.trans (zr16 31 (by decide)).2.2.1) dvX8 ?_
  have hx17 : Ok _ 2 none _ _ (wg w t gX4_init_17) (xat x 31 220) := ok_grow (w' := wg w t gX4_init_17) hx16 rfl rfl rfl rfl (lay_wg hL hb (by decide +kernel)) (by rw [hR.1]; decide) (by rw [hR.2]; decide)
  refine r_dup (pc' := 38) hx17 (hd 19) rfl rfl ?_
  refine z_pre (G0 := gX4_init_16) (o := 31) (s := 4) (U0 := UZ_X8_init) hb rfl (by decide) ((zr16 31 (by decide)).1.trans rfl) ((zr16 31 (by decide)).2.1.trans rfl) ((zr16 31 (by decide)).2.2.1.trans rfl) ((zr16 31 (by decide)).2.2.2.trans rfl) ?_
  refine q_callIN (G0 := gX4_init_16) (K := 31) (N := 220) (ci := 8) (o := 31) (As := []) (rest := [.ref (t + 31), .int 7, .ref (t + 1)]) rfl hb (by rw [hsz]; exact (by omega : t + 1 + 31 = t + 32)) hx17 (hd 20) mdI_X8_init rfl miI_X8_init mlI_4_21 (cX8_init (xl x) (wg w t gX4_init_16) (t + 31) (show Bel (wg w t gX4_init_16) (t + 31) from bel_wg hb) (Nat.le_trans hz (Nat.le_add_right _ _)) (lay_wg hL hb (by decide +kernel)) _) ⟨Nat.le_of_ble_eq_true rfl, Nat.le_of_ble_eq_true rfl⟩ (by rw [hR.1]; decide) (by rw [hR.2]; decide) rfl rfl (Nat.le_of_ble_eq_true rfl) ?_
  refine r_pcA (pc' := 41) rfl ?_
  refine z_post (by decide) ?_
  refine z_as (U' := (wr vX4_init_17 (qX4_init_17 t))) ((wrP ..).trans rfl) ?_
  have zr17 : Zr UZ_X4_init (wr vX4_init_17 (qX4_init_17 t)) 35 := Zr.cP zr16 (by decide) (by decide)
  have rn17 : Rny (wr vX4_init_17 (qX4_init_17 t)) [0, 1] := Rny.cP rn16 Rny.c
  have hx18 : Ok _ 2 none _ _ (wg w t gX4_init_18) (xat x 34 232) := ok_grow (w' := wg w t gX4_init_18) hx17 rfl rfl rfl rfl (lay_wg hL hb (by decide +kernel)) (by rw [hR.1]; decide) (by rw [hR.2]; decide)
  refine z_aast (pc' := 42) (k := 7) (c := 3) (ci := 8) (by decide) hx18 (hd 21) (wat_new (G := gX4_init_18) (o := 1) (kd := 60 + 3) (n := 16) (by decide +kernel)) (by decide) (by decide) (wat_new (G := gX4_init_18) (o := 31) (kd := 8) (n := 0) (by decide +kernel)) (by decide) rfl rfl rfl ?_
  refine z_as (U' := (wr vX4_init_18 (qX4_init_18 t))) ((wrR ..).trans rfl) ?_
  have zr18 : Zr UZ_X4_init (wr vX4_init_18 (qX4_init_18 t)) 35 := Zr.cR zr17 (by decide)
  have rn18 : Rny (wr vX4_init_18 (qX4_init_18 t)) [0, 1] := Rny.cR rn17 (by decide)
  refine z_iinc (pc' := 45) (v := 8) (L' := [(1, .int 8), (0, .ref t)]) (j := 0) hx18 (hd 22) rfl (by decide) (by decide) rfl rfl ?_
  refine r_goto (tgt := 23) hx18 (hd 23) (by decide) ?_
  refine r_iload_n (pc' := 24) hx18 (hd 12) rfl 0 rfl rfl ?_
  refine r_bipush (pc' := 26) (v := 16) hx18 (hd 13) (by decide) rfl ?_
  refine z_geF (pc' := 29) 48 hx18 (hd 14) (by decide) (by decide) rfl ?_
  refine r_aload_n (pc' := 30) hx18 (hd 15) rfl 1 rfl rfl ?_
  refine z_getR (pc' := 33) (o := 1) (by decide) hx18 (hd 16) flI_4_13 (wat_new (G := gX4_init_18) (o := 0) (kd := 40 + 4) (n := 0) (by decide +kernel)) rfl rfl (by decide) rfl ?_
  refine r_iload_n (pc' := 34) hx18 (hd 17) rfl 0 rfl rfl ?_
  refine q_newO (G := gX4_init_18) (K := 34) (N := 232) (ci := 8) (o := 35) tyX8 rfl hb hz (by decide) (by rw [hsz]; exact (by omega : t + 1 + 34 = t + 35)) hx18 (hd 18) rfl inX8 tyX8_ok cl_4_11 ins_8 ini_8 (by decide) (by rw [hR.1]; decide) (by rw [hR.2]; decide) ((put_at (by decide)).1.trans (zr18 35 (by decide)).1) ((put_at (by decide)).2.1.trans (zr18 35 (by decide)).2.1) ((put_at (by decide)).2.2.1.trans (zr18 35 (by decide)).2.2.1) dvX8 ?_
  have hx19 : Ok _ 2 none _ _ (wg w t gX4_init_19) (xat x 35 245) := ok_grow (w' := wg w t gX4_init_19) hx18 rfl rfl rfl rfl (lay_wg hL hb (by decide +kernel)) (by rw [hR.1]; decide) (by rw [hR.2]; decide)
  refine r_dup (pc' := 38) hx19 (hd 19) rfl rfl ?_
  refine z_pre (G0 := gX4_init_18) (o := 35) (s := 4) (U0 := UZ_X8_init) hb rfl (by decide) ((zr18 35 (by decide)).1.trans rfl) ((zr18 35 (by decide)).2.1.trans rfl) ((zr18 35 (by decide)).2.2.1.trans rfl) ((zr18 35 (by decide)).2.2.2.trans rfl) ?_
  refine q_callIN (G0 := gX4_init_18) (K := 35) (N := 245) (ci := 8) (o := 35) (As := []) (rest := [.ref (t + 35), .int 8, .ref (t + 1)]) rfl hb (by rw [hsz]; exact (by omega : t + 1 + 35 = t + 36)) hx19 (hd 20) mdI_X8_init rfl miI_X8_init mlI_4_21 (cX8_init (xl x) (wg w t gX4_init_18) (t + 35) (show Bel (wg w t gX4_init_18) (t + 35) from bel_wg hb) (Nat.le_trans hz (Nat.le_add_right _ _)) (lay_wg hL hb (by decide +kernel)) _) ⟨Nat.le_of_ble_eq_true rfl, Nat.le_of_ble_eq_true rfl⟩ (by rw [hR.1]; decide) (by rw [hR.2]; decide) rfl rfl (Nat.le_of_ble_eq_true rfl) ?_
  refine r_pcA (pc' := 41) rfl ?_
  refine z_post (by decide) ?_
  refine z_as (U' := (wr vX4_init_19 (qX4_init_19 t))) ((wrP ..).trans rfl) ?_
  have zr19 : Zr UZ_X4_init (wr vX4_init_19 (qX4_init_19 t)) 39 := Zr.cP zr18 (by decide) (by decide)
  have rn19 : Rny (wr vX4_init_19 (qX4_init_19 t)) [0, 1] := Rny.cP rn18 Rny.c
  have hx20 : Ok _ 2 none _ _ (wg w t gX4_init_20) (xat x 38 257) := ok_grow (w' := wg w t gX4_init_20) hx19 rfl rfl rfl rfl (lay_wg hL hb (by decide +kernel)) (by rw [hR.1]; decide) (by rw [hR.2]; decide)
  refine z_aast (pc' := 42) (k := 8) (c := 3) (ci := 8) (by decide) hx20 (hd 21) (wat_new (G := gX4_init_20) (o := 1) (kd := 60 + 3) (n := 16) (by decide +kernel)) (by decide) (by decide) (wat_new (G := gX4_init_20) (o := 35) (kd := 8) (n := 0) (by decide +kernel)) (by decide) rfl rfl rfl ?_
  refine z_as (U' := (wr vX4_init_20 (qX4_init_20 t))) ((wrR ..).trans rfl) ?_
  have zr20 : Zr UZ_X4_init (wr vX4_init_20 (qX4_init_20 t)) 39 := Zr.cR zr19 (by decide)
  have rn20 : Rny (wr vX4_init_20 (qX4_init_20 t)) [0, 1] := Rny.cR rn19 (by decide)
  refine z_iinc (pc' := 45) (v := 9) (L' := [(1, .int 9), (0, .ref t)]) (j := 0) hx20 (hd 22) rfl (by decide) (by decide) rfl rfl ?_
  refine r_goto (tgt := 23) hx20 (hd 23) (by decide) ?_
  refine r_iload_n (pc' := 24) hx20 (hd 12) rfl 0 rfl rfl ?_
  refine r_bipush (pc' := 26) (v := 16) hx20 (hd 13) (by decide) rfl ?_
  refine z_geF (pc' := 29) 48 hx20 (hd 14) (by decide) (by decide) rfl ?_
  refine r_aload_n (pc' := 30) hx20 (hd 15) rfl 1 rfl rfl ?_
  refine z_getR (pc' := 33) (o := 1) (by decide) hx20 (hd 16) flI_4_13 (wat_new (G := gX4_init_20) (o := 0) (kd := 40 + 4) (n := 0) (by decide +kernel)) rfl rfl (by decide) rfl ?_
  refine r_iload_n (pc' := 34) hx20 (hd 17) rfl 0 rfl rfl ?_
  refine q_newO (G := gX4_init_20) (K := 38) (N := 257) (ci := 8) (o := 39) tyX8 rfl hb hz (by decide) (by rw [hsz]; exact (by omega : t + 1 + 38 = t + 39)) hx20 (hd 18) rfl inX8 tyX8_ok cl_4_11 ins_8 ini_8 (by decide) (by rw [hR.1]; decide) (by rw [hR.2]; decide) ((put_at (by decide)).1.trans (zr20 39 (by decide)).1) ((put_at (by decide)).2.1.trans (zr20 39 (by decide)).2.1) ((put_at (by decide)).2.2.1.trans (zr20 39 (by decide)).2.2.1) dvX8 ?_
  have hx21 : Ok _ 2 none _ _ (wg w t gX4_init_21) (xat x 39 270) := ok_grow (w' := wg w t gX4_init_21) hx20 rfl rfl rfl rfl (lay_wg hL hb (by decide +kernel)) (by rw [hR.1]; decide) (by rw [hR.2]; decide)
  refine r_dup (pc' := 38) hx21 (hd 19) rfl rfl ?_
  refine z_pre (G0 := gX4_init_20) (o := 39) (s := 4) (U0 := UZ_X8_init) hb rfl (by decide) ((zr20 39 (by decide)).1.trans rfl) ((zr20 39 (by decide)).2.1.trans rfl) ((zr20 39 (by decide)).2.2.1.trans rfl) ((zr20 39 (by decide)).2.2.2.trans rfl) ?_
  refine q_callIN (G0 := gX4_init_20) (K := 39) (N := 270) (ci := 8) (o := 39) (As := []) (rest := [.ref (t + 39), .int 9, .ref (t + 1)]) rfl hb (by rw [hsz]; exact (by omega : t + 1 + 39 = t + 40)) hx21 (hd 20) mdI_X8_init rfl miI_X8_init mlI_4_21 (cX8_init (xl x) (wg w t gX4_init_20) (t + 39) (show Bel (wg w t gX4_init_20) (t + 39) from bel_wg hb) (Nat.le_trans hz (Nat.le_add_right _ _)) (lay_wg hL hb (by decide +kernel)) _) ⟨Nat.le_of_ble_eq_true rfl, Nat.le_of_ble_eq_true rfl⟩ (by rw [hR.1]; decide) (by rw [hR.2]; decide) rfl rfl (Nat.le_of_ble_eq_true rfl) ?_
  refine r_pcA (pc' := 41) rfl ?_
  refine z_post (by decide) ?_
  refine z_as (U' := (wr vX4_init_21 (qX4_init_21 t))) ((wrP ..).trans rfl) ?_
  have zr21 : Zr UZ_X4_init (wr vX4_init_21 (qX4_init_21 t)) 43 := Zr.cP zr20 (by decide) (by decide)
  have rn21 : Rny (wr vX4_init_21 (qX4_init_21 t)) [0, 1] := Rny.cP rn20 Rny.c
  have hx22 : Ok _ 2 none _ _ (wg w t gX4_init_22) (xat x 42 282) := ok_grow (w' := wg w t gX4_init_22) hx21 rfl rfl rfl rfl (lay_wg hL hb (by decide +kernel)) (by rw [hR.1]; decide) (by rw [hR.2]; decide)
  refine z_aast (pc' := 42) (k := 9) (c := 3) (ci := 8) (by decide) hx22 (hd 21) (wat_new (G := gX4_init_22) (o := 1) (kd := 60 + 3) (n := 16) (by decide +kernel)) (by decide) (by decide) (wat_new (G := gX4_init_22) (o := 39) (kd := 8) (n := 0) (by decide +kernel)) (by decide) rfl rfl rfl ?_
  refine z_as (U' := (wr vX4_init_22 (qX4_init_22 t))) ((wrR ..).trans rfl) ?_
  have zr22 : Zr UZ_X4_init (wr vX4_init_22 (qX4_init_22 t)) 43 := Zr.cR zr21 (by decide)
  have rn22 : Rny (wr vX4_init_22 (qX4_init_22 t)) [0, 1] := Rny.cR rn21 (by decide)
  refine z_iinc (pc' := 45) (v := 10) (L' := [(1, .int 10), (0, .ref t)]) (j := 0) hx22 (hd 22) rfl (by decide) (by decide) rfl rfl ?_
  refine r_goto (tgt := 23) hx22 (hd 23) (by decide) ?_
  refine r_iload_n (pc' := 24) hx22 (hd 12) rfl 0 rfl rfl ?_
  refine r_bipush (pc' := 26) (v := 16) hx22 (hd 13) (by decide) rfl ?_
  refine z_geF (pc' := 29) 48 hx22 (hd 14) (by decide) (by decide) rfl ?_
  refine r_aload_n (pc' := 30) hx22 (hd 15) rfl 1 rfl rfl ?_
  refine z_getR (pc' := 33) (o := 1) (by decide) hx22 (hd 16) flI_4_13 (wat_new (G := gX4_init_22) (o := 0) (kd := 40 + 4) (n := 0) (by decide +kernel)) rfl rfl (by decide) rfl ?_
  refine r_iload_n (pc' := 34) hx22 (hd 17) rfl 0 rfl rfl ?_
  refine q_newO (G := gX4_init_22) (K := 42) (N := 282) (ci := 8) (o := 43) tyX8 rfl hb hz (by decide) (by rw [hsz]; exact (by omega : t + 1 + 42 = t + 43)) hx22 (hd 18) rfl inX8 tyX8_ok cl_4_11 ins_8 ini_8 (by decide) (by rw [hR.1]; decide) (by rw [hR.2]; decide) ((put_at (by decide)).1.trans (zr22 43 (by decide)).1) ((put_at (by decide)).2.1.trans (zr22 43 (by decide)).2.1) ((put_at (by decide)).2.2.1.trans (zr22 43 (by decide)).2.2.1) dvX8 ?_
  have hx23 : Ok _ 2 none _ _ (wg w t gX4_init_23) (xat x 43 295) := ok_grow (w' := wg w t gX4_init_23) hx22 rfl rfl rfl rfl (lay_wg hL hb (by decide +kernel)) (by rw [hR.1]; decide) (by rw [hR.2]; decide)
  refine r_dup (pc' := 38) hx23 (hd 19) rfl rfl ?_
  refine z_pre (G0 := gX4_init_22) (o := 43) (s := 4) (U0 := UZ_X8_init) hb rfl (by decide) ((zr22 43 (by decide)).1.trans rfl) ((zr22 43 (by decide)).2.1.trans rfl) ((zr22 43 (by decide)).2.2.1.trans rfl) ((zr22 43 (by decide)).2.2.2.trans rfl) ?_
  refine q_callIN (G0 := gX4_init_22) (K := 43) (N := 295) (ci := 8) (o := 43) (As := []) (rest := [.ref (t + 43), .int 10, .ref (t + 1)]) rfl hb (by rw [hsz]; exact (by omega : t + 1 + 43 = t + 44)) hx23 (hd 20) mdI_X8_init rfl miI_X8_init mlI_4_21 (cX8_init (xl x) (wg w t gX4_init_22) (t + 43) (show Bel (wg w t gX4_init_22) (t + 43) from bel_wg hb) (Nat.le_trans hz (Nat.le_add_right _ _)) (lay_wg hL hb (by decide +kernel)) _) ⟨Nat.le_of_ble_eq_true rfl, Nat.le_of_ble_eq_true rfl⟩ (by rw [hR.1]; decide) (by rw [hR.2]; decide) rfl rfl (Nat.le_of_ble_eq_true rfl) ?_
  refine r_pcA (pc' := 41) rfl ?_
  refine z_post (by decide) ?_
  refine z_as (U' := (wr vX4_init_23 (qX4_init_23 t))) ((wrP ..).trans rfl) ?_
  have zr23 : Zr UZ_X4_init (wr vX4_init_23 (qX4_init_23 t)) 47 := Zr.cP zr22 (by decide) (by decide)
  have rn23 : Rny (wr vX4_init_23 (qX4_init_23 t)) [0, 1] := Rny.cP rn22 Rny.c
  have hx24 : Ok _ 2 none _ _ (wg w t gX4_init_24) (xat x 46 307) := ok_grow (w' := wg w t gX4_init_24) hx23 rfl rfl rfl rfl (lay_wg hL hb (by decide +kernel)) (by rw [hR.1]; decide) (by rw [hR.2]; decide)
  refine z_aast (pc' := 42) (k := 10) (c := 3) (ci := 8) (by decide) hx24 (hd 21) (wat_new (G := gX4_init_24) (o := 1) (kd := 60 + 3) (n := 16) (by decide +kernel)) (by decide) (by decide) (wat_new (G := gX4_init_24) (o := 43) (kd := 8) (n := 0) (by decide +kernel)) (by decide) rfl rfl rfl ?_
  refine z_as (U' := (wr vX4_init_24 (qX4_init_24 t))) ((wrR ..).trans rfl) ?_
  have zr24 : Zr UZ_X4_init (wr vX4_init_24 (qX4_init_24 t)) 47 := Zr.cR zr23 (by decide)
  have rn24 : Rny (wr vX4_init_24 (qX4_init_24 t)) [0, 1] := Rny.cR rn23 (by decide)
  refine z_iinc (pc' := 45) (v := 11) (L' := [(1, .int 11), (0, .ref t)]) (j := 0) hx24 (hd 22) rfl (by decide) (by decide) rfl rfl ?_
  refine r_goto (tgt := 23) hx24 (hd 23) (by decide) ?_
  refine r_iload_n (pc' := 24) hx24 (hd 12) rfl 0 rfl rfl ?_
  refine r_bipush (pc' := 26) (v := 16) hx24 (hd 13) (by decide) rfl ?_
  refine z_geF (pc' := 29) 48 hx24 (hd 14) (by decide) (by decide) rfl ?_
  refine r_aload_n (pc' := 30) hx24 (hd 15) rfl 1 rfl rfl ?_
  refine z_getR (pc' := 33) (o := 1) (by decide) hx24 (hd 16) flI_4_13 (wat_new (G := gX4_init_24) (o := 0) (kd := 40 + 4) (n := 0) (by decide +kernel)) rfl rfl (by decide) rfl ?_
  refine r_iload_n (pc' := 34) hx24 (hd 17) rfl 0 rfl rfl ?_
  refine q_newO (G := gX4_init_24) (K := 46) (N := 307) (ci := 8) (o := 47) tyX8 rfl hb hz (by decide) (by rw [hsz]; exact (by omega : t + 1 + 46 = t + 47)) hx24 (hd 18) rfl inX8 tyX8_ok cl_4_11 ins_8 ini_8 (by decide) (by rw [hR.1]; decide) (by rw [hR.2]; decide) ((put_at (by decide)).1.trans (zr24 47 (by decide)).1) ((put_at (by decide)).2.1.trans (zr24 47 (by decide)).2.1) ((put_at (by decide)).2.2.1.trans (zr24 47 (by decide)).2.2.1) dvX8 ?_
  have hx25 : Ok _ 2 none _ _ (wg w t gX4_init_25) (xat x 47 320) := ok_grow (w' := wg w t gX4_init_25) hx24 rfl rfl rfl rfl (lay_wg hL hb (by decide +kernel)) (by rw [hR.1]; decide) (by rw [hR.2]; decide)
  refine r_dup (pc' := 38) hx25 (hd 19) rfl rfl ?_
  refine z_pre (G0 := gX4_init_24) (o := 47) (s := 4) (U0 := UZ_X8_init) hb rfl (by decide) ((zr24 47 (by decide)).1.trans rfl) ((zr24 47 (by decide)).2.1.trans rfl) ((zr24 47 (by decide)).2.2.1.trans rfl) ((zr24 47 (by decide)).2.2.2.trans rfl) ?_
  refine q_callIN (G0 := gX4_init_24) (K := 47) (N := 320) (ci := 8) (o := 47) (As := []) (rest := [.ref (t + 47), .int 11, .ref (t + 1)]) rfl hb (by rw [hsz]; exact (by omega : t + 1 + 47 = t + 48)) hx25 (hd 20) mdI_X8_init rfl miI_X8_init mlI_4_21 (cX8_init (xl x) (wg w t gX4_init_24) (t + 47) (show Bel (wg w t gX4_init_24) (t + 47) from bel_wg hb) (Nat.le_trans hz (Nat.le_add_right _ _)) (lay_wg hL hb (by decide +kernel)) _) ⟨Nat.le_of_ble_eq_true rfl, Nat.le_of_ble_eq_true rfl⟩ (by rw [hR.1]; decide) (by rw [hR.2]; decide) rfl rfl (Nat.le_of_ble_eq_true rfl) ?_
  refine r_pcA (pc' := 41) rfl ?_
  refine z_post (by decide) ?_
  refine z_as (U' := (wr vX4_init_25 (qX4_init_25 t))) ((wrP ..).trans rfl) ?_
  have zr25 : Zr UZ_X4_init (wr vX4_init_25 (qX4_init_25 t)) 51 := Zr.cP zr24 (by decide) (by decide)
  have rn25 : Rny (wr vX4_init_25 (qX4_init_25 t)) [0, 1] := Rny.cP rn24 Rny.c
  have hx26 : Ok _ 2 none _ _ (wg w t gX4_init_26) (xat x 50 332) := ok_grow (w' := wg w t gX4_init_26) hx25 rfl rfl rfl rfl (lay_wg hL hb (by decide +kernel)) (by rw [hR.1]; decide) (by rw [hR.2]; decide)
  refine z_aast (pc' := 42) (k := 11) (c := 3) (ci := 8) (by decide) hx26 (hd 21) (wat_new (G := gX4_init_26) (o := 1) (kd := 60 + 3) (n := 16) (by decide +kernel)) (by decide) (by decide) (wat_new (G := gX4_init_26) (o := 47) (kd := 8) (n := 0) (by decide +kernel)) (by decide) rfl rfl rfl ?_
  refine z_as (U' := (wr vX4_init_26 (qX4_init_26 t))) ((wrR ..).trans rfl) ?_
  have zr26 : Zr UZ_X4_init (wr vX4_init_26 (qX4_init_26 t)) 51 := Zr.cR zr25 (by decide)
  have rn26 : Rny (wr vX4_init_26 (qX4_init_26 t)) [0, 1] := Rny.cR rn25 (by decide)
  refine z_iinc (pc' := 45) (v := 12) (L' := [(1, .int 12), (0, .ref t)]) (j := 0) hx26 (hd 22) rfl (by decide) (by decide) rfl rfl ?_
  refine r_goto (tgt := 23) hx26 (hd 23) (by decide) ?_
  refine r_iload_n (pc' := 24) hx26 (hd 12) rfl 0 rfl rfl ?_
  refine r_bipush (pc' := 26) (v := 16) hx26 (hd 13) (by decide) rfl ?_
  refine z_geF (pc' := 29) 48 hx26 (hd 14) (by decide) (by decide) rfl ?_
  refine r_aload_n (pc' := 30) hx26 (hd 15) rfl 1 rfl rfl ?_
  refine z_getR (pc' := 33) (o := 1) (by decide) hx26 (hd 16) flI_4_13 (wat_new (G := gX4_init_26) (o := 0) (kd := 40 + 4) (n := 0) (by decide +kernel)) rfl rfl (by decide) rfl ?_
  refine r_iload_n (pc' := 34) hx26 (hd 17) rfl 0 rfl rfl ?_
  refine q_newO (G := gX4_init_26) (K := 50) (N := 332) (ci := 8) (o := 51) tyX8 rfl hb hz (by decide) (by rw [hsz]; exact (by omega : t + 1 + 50 = t + 51)) hx26 (hd 18) rfl inX8 tyX8_ok cl_4_11 ins_8 ini_8 (by decide) (by rw [hR.1]; decide) (by rw [hR.2]; decide) ((put_at (by decide)).1.trans (zr26 51 (by decide)).1) ((put_at (by decide)).2.1.trans (zr26 51 (by decide)).2.1) ((put_at (by decide)).2.2.1.trans (zr26 51 (by decide)).2.2.1) dvX8 ?_
  have hx27 : Ok _ 2 none _ _ (wg w t gX4_init_27) (xat x 51 345) := ok_grow (w' := wg w t gX4_init_27) hx26 rfl rfl rfl rfl (lay_wg hL hb (by decide +kernel)) (by rw [hR.1]; decide) (by rw [hR.2]; decide)
  refine r_dup (pc' := 38) hx27 (hd 19) rfl rfl ?_
  refine z_pre (G0 := gX4_init_26) (o := 51) (s := 4) (U0 := UZ_X8_init) hb rfl (by decide) ((zr26 51 (by decide)).1.trans rfl) ((zr26 51 (by decide)).2.1.trans rfl) ((zr26 51 (by decide)).2.2.1.trans rfl) ((zr26 51 (by decide)).2.2.2.trans rfl) ?_
  refine q_callIN (G0 := gX4_init_26) (K := 51) (N := 345) (ci := 8) (o := 51) (As := []) (rest := [.ref (t + 51), .int 12, .ref (t + 1)]) rfl hb (by rw [hsz]; exact (by omega : t + 1 + 51 = t + 52)) hx27 (hd 20) mdI_X8_init rfl miI_X8_init mlI_4_21 (cX8_init (xl x) (wg w t gX4_init_26) (t + 51) (show Bel (wg w t gX4_init_26) (t + 51) from bel_wg hb) (Nat.le_trans hz (Nat.le_add_right _ _)) (lay_wg hL hb (by decide +kernel)) _) ⟨Nat.le_of_ble_eq_true rfl, Nat.le_of_ble_eq_true rfl⟩ (by rw [hR.1]; decide) (by rw [hR.2]; decide) rfl rfl (Nat.le_of_ble_eq_true rfl) ?_
  refine r_pcA (pc' := 41) rfl ?_
  refine z_post (by decide) ?_
  refine z_as (U' := (wr vX4_init_27 (qX4_init_27 t))) ((wrP ..).trans rfl) ?_
  have zr27 : Zr UZ_X4_init (wr vX4_init_27 (qX4_init_27 t)) 55 := Zr.cP zr26 (by decide) (by decide)
  have rn27 : Rny (wr vX4_init_27 (qX4_init_27 t)) [0, 1] := Rny.cP rn26 Rny.c
  have hx28 : Ok _ 2 none _ _ (wg w t gX4_init_28) (xat x 54 357) := ok_grow (w' := wg w t gX4_init_28) hx27 rfl rfl rfl rfl (lay_wg hL hb (by decide +kernel)) (by rw [hR.1]; decide) (by rw [hR.2]; decide)
  refine z_aast (pc' := 42) (k := 12) (c := 3) (ci := 8) (by decide) hx28 (hd 21) (wat_new (G := gX4_init_28) (o := 1) (kd := 60 + 3) (n := 16) (by decide +kernel)) (by decide) (by decide) (wat_new (G := gX4_init_28) (o := 51) (kd := 8) (n := 0) (by decide +kernel)) (by decide) rfl rfl rfl ?_
  refine z_as (U' := (wr vX4_init_28 (qX4_init_28 t))) ((wrR ..).trans rfl) ?_
  have zr28 : Zr UZ_X4_init (wr vX4_init_28 (qX4_init_28 t)) 55 := Zr.cR zr27 (by decide)
  have rn28 : Rny (wr vX4_init_28 (qX4_init_28 t)) [0, 1] := Rny.cR rn27 (by decide)
  refine z_iinc (pc' := 45) (v := 13) (L' := [(1, .int 13), (0, .ref t)]) (j := 0) hx28 (hd 22) rfl (by decide) (by decide) rfl rfl ?_
  refine r_goto (tgt := 23) hx28 (hd 23) (by decide) ?_
  refine r_iload_n (pc' := 24) hx28 (hd 12) rfl 0 rfl rfl ?_
  refine r_bipush (pc' := 26) (v := 16) hx28 (hd 13) (by decide) rfl ?_
  refine z_geF (pc' := 29) 48 hx28 (hd 14) (by decide) (by decide) rfl ?_
  refine r_aload_n (pc' := 30) hx28 (hd 15) rfl 1 rfl rfl ?_
  refine z_getR (pc' := 33) (o := 1) (by decide) hx28 (hd 16) flI_4_13 (wat_new (G := gX4_init_28) (o := 0) (kd := 40 + 4) (n := 0) (by decide +kernel)) rfl rfl (by decide) rfl ?_
  refine r_iload_n (pc' := 34) hx28 (hd 17) rfl 0 rfl rfl ?_
  refine q_newO (G := gX4_init_28) (K := 54) (N := 357) (ci := 8) (o := 55) tyX8 rfl hb hz (by decide) (by rw [hsz]; exact (by omega : t + 1 + 54 = t + 55)) hx28 (hd 18) rfl inX8 tyX8_ok cl_4_11 ins_8 ini_8 (by decide) (by rw [hR.1]; decide) (by rw [hR.2]; decide) ((put_at (by decide)).1.trans (zr28 55 (by decide)).1) ((put_at (by decide)).2.1.trans (zr28 55 (by decide)).2.1) ((put_at (by decide)).2.2.1.trans (zr28 55 (by decide)).2.2.1) dvX8 ?_
  have hx29 : Ok _ 2 none _ _ (wg w t gX4_init_29) (xat x 55 370) := ok_grow (w' := wg w t gX4_init_29) hx28 rfl rfl rfl rfl (lay_wg hL hb (by decide +kernel)) (by rw [hR.1]; decide) (by rw [hR.2]; decide)
  refine r_dup (pc' := 38) hx29 (hd 19) rfl rfl ?_
  refine z_pre (G0 := gX4_init_28) (o := 55) (s := 4) (U0 := UZ_X8_init) hb rfl (by decide) ((zr28 55 (by decide)).1.trans rfl) ((zr28 55 (by decide)).2.1.trans rfl) ((zr28 55 (by decide)).2.2.1.trans rfl) ((zr28 55 (by decide)).2.2.2.trans rfl) ?_
  refine q_callIN (G0 := gX4_init_28) (K := 55) (N := 370) (ci := 8) (o := 55) (As := []) (rest := [.ref (t + 55), .int 13, .ref (t + 1)]) rfl hb (by rw [hsz]; exact (by omega : t + 1 + 55 = t + 56)) hx29 (hd 20) mdI_X8_init rfl miI_X8_init mlI_4_21 (cX8_init (xl x) (wg w t gX4_init_28) (t + 55) (show Bel (wg w t gX4_init_28) (t + 55) from bel_wg hb) (Nat.le_trans hz (Nat.le_add_right _ _)) (lay_wg hL hb (by decide +kernel)) _) ⟨Nat.le_of_ble_eq_true rfl, Nat.le_of_ble_eq_true rfl⟩ (by rw [hR.1]; decide) (by rw [hR.2]; decide) rfl rfl (Nat.le_of_ble_eq_true rfl) ?_
  refine r_pcA (pc' := 41) rfl ?_
  refine z_post (by decide) ?_
  refine z_as (U' := (wr vX4_init_29 (qX4_init_29 t))) ((wrP ..).trans rfl) ?_
  have zr29 : Zr UZ_X4_init (wr vX4_init_29 (qX4_init_29 t)) 59 := Zr.cP zr28 (by decide) (by decide)
  have rn29 : Rny (wr vX4_init_29 (qX4_init_29 t)) [0, 1] := Rny.cP rn28 Rny.c
  have hx30 : Ok _ 2 none _ _ (wg w t gX4_init_30) (xat x 58 382) := ok_grow (w' := wg w t gX4_init_30) hx29 rfl rfl rfl rfl (lay_wg hL hb (by decide +kernel)) (by rw [hR.1]; decide) (by rw [hR.2]; decide)
  refine z_aast (pc' := 42) (k := 13) (c := 3) (ci := 8) (by decide) hx30 (hd 21) (wat_new (G := gX4_init_30) (o := 1) (kd := 60 + 3) (n := 16) (by decide +kernel)) (by decide) (by decide) (wat_new (G := gX4_init_30) (o := 55) (kd := 8) (n := 0) (by decide +kernel)) (by decide) rfl rfl rfl ?_
  refine z_as (U' := (wr vX4_init_30 (qX4_init_30 t))) ((wrR ..).trans rfl) ?_
  have zr30 : Zr UZ_X4_init (wr vX4_init_30 (qX4_init_30 t)) 59 := Zr.cR zr29 (by decide)
  have rn30 : Rny (wr vX4_init_30 (qX4_init_30 t)) [0, 1] := Rny.cR rn29 (by decide)
  refine z_iinc (pc' := 45) (v := 14) (L' := [(1, .int 14), (0, .ref t)]) (j := 0) hx30 (hd 22) rfl (by decide) (by decide) rfl rfl ?_
  refine r_goto (tgt := 23) hx30 (hd 23) (by decide) ?_
  refine r_iload_n (pc' := 24) hx30 (hd 12) rfl 0 rfl rfl ?_
  refine r_bipush (pc' := 26) (v := 16) hx30 (hd 13) (by decide) rfl ?_
  refine z_geF (pc' := 29) 48 hx30 (hd 14) (by decide) (by decide) rfl ?_
  refine r_aload_n (pc' := 30) hx30 (hd 15) rfl 1 rfl rfl ?_
  refine z_getR (pc' := 33) (o := 1) (by decide) hx30 (hd 16) flI_4_13 (wat_new (G := gX4_init_30) (o := 0) (kd := 40 + 4) (n := 0) (by decide +kernel)) rfl rfl (by decide) rfl ?_
  refine r_iload_n (pc' := 34) hx30 (hd 17) rfl 0 rfl rfl ?_
  refine q_newO (G := gX4_init_30) (K := 58) (N := 382) (ci := 8) (o := 59) tyX8 rfl hb hz (by decide) (by rw [hsz]; exact (by omega : t + 1 + 58 = t + 59)) hx30 (hd 18) rfl inX8 tyX8_ok cl_4_11 ins_8 ini_8 (by decide) (by rw [hR.1]; decide) (by rw [hR.2]; decide) ((put_at (by decide)).1.trans (zr30 59 (by decide)).1) ((put_at (by decide)).2.1.trans (zr30 59 (by decide)).2.1) ((put_at (by decide)).2.2.1.trans (zr30 59 (by decide)).2.2.1) dvX8 ?_
  have hx31 : Ok _ 2 none _ _ (wg w t gX4_init_31) (xat x 59 395) := ok_grow (w' := wg w t gX4_init_31) hx30 rfl rfl rfl rfl (lay_wg hL hb (by decide +kernel)) (by rw [hR.1]; decide) (by rw [hR.2]; decide)
  refine r_dup (pc' := 38) hx31 (hd 19) rfl rfl ?_
  refine z_pre (G0 := gX4_init_30) (o := 59) (s := 4) (U0 := UZ_X8_init) hb rfl (by decide) ((zr30 59 (by decide)).1.trans rfl) ((zr30 59 (by decide)).2.1.trans rfl) ((zr30 59 (by decide)).2.2.1.trans rfl) ((zr30 59 (by decide)).2.2.2.trans rfl) ?_
  refine q_callIN (G0 := gX4_init_30) (K := 59) (N := 395) (ci := 8) (o := 59) (As := []) (rest := [.ref (t + 59), .int 14, .ref (t + 1)]) rfl hb (by rw [hsz]; exact (by omega : t + 1 + 59 = t + 60)) hx31 (hd 20) mdI_X8_init rfl miI_X8_init mlI_4_21 (cX8_init (xl x) (wg w t gX4_init_30) (t + 59) (show Bel (wg w t gX4_init_30) (t + 59) from bel_wg hb) (Nat.le_trans hz (Nat.le_add_right _ _)) (lay_wg hL hb (by decide +kernel)) _) ⟨Nat.le_of_ble_eq_true rfl, Nat.le_of_ble_eq_true rfl⟩ (by rw [hR.1]; decide) (by rw [hR.2]; decide) rfl rfl (Nat.le_of_ble_eq_true rfl) ?_
  refine r_pcA (pc' := 41) rfl ?_
  refine z_post (by decide) ?_
  refine z_as (U' := (wr vX4_init_31 (qX4_init_31 t))) ((wrP ..).trans rfl) ?_
  have zr31 : Zr UZ_X4_init (wr vX4_init_31 (qX4_init_31 t)) 63 := Zr.cP zr30 (by decide) (by decide)
  have rn31 : Rny (wr vX4_init_31 (qX4_init_31 t)) [0, 1] := Rny.cP rn30 Rny.c
  have hx32 : Ok _ 2 none _ _ (wg w t gX4_init_32) (xat x 62 407) := ok_grow (w' := wg w t gX4_init_32) hx31 rfl rfl rfl rfl (lay_wg hL hb (by decide +kernel)) (by rw [hR.1]; decide) (by rw [hR.2]; decide)
  refine z_aast (pc' := 42) (k := 14) (c := 3) (ci := 8) (by decide) hx32 (hd 21) (wat_new (G := gX4_init_32) (o := 1) (kd := 60 + 3) (n := 16) (by decide +kernel)) (by decide) (by decide) (wat_new (G := gX4_init_32) (o := 59) (kd := 8) (n := 0) (by decide +kernel)) (by decide) rfl rfl rfl ?_
  refine z_as (U' := (wr vX4_init_32 (qX4_init_32 t))) ((wrR ..).trans rfl) ?_
  have zr32 : Zr UZ_X4_init (wr vX4_init_32 (qX4_init_32 t)) 63 := Zr.cR zr31 (by decide)
  have rn32 : Rny (wr vX4_init_32 (qX4_init_32 t)) [0, 1] := Rny.cR rn31 (by decide)
  refine z_iinc (pc' := 45) (v := 15) (L' := [(1, .int 15), (0, .ref t)]) (j := 0) hx32 (hd 22) rfl (by decide) (by decide) rfl rfl ?_
  refine r_goto (tgt := 23) hx32 (hd 23) (by decide) ?_
  refine r_iload_n (pc' := 24) hx32 (hd 12) rfl 0 rfl rfl ?_
  refine r_bipush (pc' := 26) (v := 16) hx32 (hd 13) (by decide) rfl ?_
  refine z_geF (pc' := 29) 48 hx32 (hd 14) (by decide) (by decide) rfl ?_
  refine r_aload_n (pc' := 30) hx32 (hd 15) rfl 1 rfl rfl ?_
  refine z_getR (pc' := 33) (o := 1) (by decide) hx32 (hd 16) flI_4_13 (wat_new (G := gX4_init_32) (o := 0) (kd := 40 + 4) (n := 0) (by decide +kernel)) rfl rfl (by decide) rfl ?_
  refine r_iload_n (pc' := 34) hx32 (hd 17) rfl 0 rfl rfl ?_
  refine q_newO (G := gX4_init_32) (K := 62) (N := 407) (ci := 8) (o := 63) tyX8 rfl hb hz (by decide) (by rw [hsz]; exact (by omega : t + 1 + 62 = t + 63)) hx32 (hd 18) rfl inX8 tyX8_ok cl_4_11 ins_8 ini_8 (by decide) (by rw [hR.1]; decide) (by rw [hR.2]; decide) ((put_at (by decide)).1.trans (zr32 63 (by decide)).1) ((put_at (by decide)).2.1.trans (zr32 63 (by decide)).2.1) ((put_at (by decide)).2.2.1.trans (zr32 63 (by decide)).2.2.1) dvX8 ?_
  have hx33 : Ok _ 2 none _ _ (wg w t gX4_init_33) (xat x 63 420) := ok_grow (w' := wg w t gX4_init_33) hx32 rfl rfl rfl rfl (lay_wg hL hb (by decide +kernel)) (by rw [hR.1]; decide) (by rw [hR.2]; decide)
  refine r_dup (pc' := 38) hx33 (hd 19) rfl rfl ?_
  refine z_pre (G0 := gX4_init_32) (o := 63) (s := 4) (U0 := UZ_X8_init) hb rfl (by decide) ((zr32 63 (by decide)).1.trans rfl) ((zr32 63 (by decide)).2.1.trans rfl) ((zr32 63 (by decide)).2.2.1.trans rfl) ((zr32 63 (by decide)).2.2.2.trans rfl) ?_
  refine q_callIN (G0 := gX4_init_32) (K := 63) (N := 420) (ci := 8) (o := 63) (As := []) (rest := [.ref (t + 63), .int 15, .ref (t + 1)]) rfl hb (by rw [hsz]; exact (by omega : t + 1 + 63 = t + 64)) hx33 (hd 20) mdI_X8_init rfl miI_X8_init mlI_4_21 (cX8_init (xl x) (wg w t gX4_init_32) (t + 63) (show Bel (wg w t gX4_init_32) (t + 63) from bel_wg hb) (Nat.le_trans hz (Nat.le_add_right _ _)) (lay_wg hL hb (by decide +kernel)) _) ⟨Nat.le_of_ble_eq_true rfl, Nat.le_of_ble_eq_true rfl⟩ (by rw [hR.1]; decide) (by rw [hR.2]; decide) rfl rfl (Nat.le_of_ble_eq_true rfl) ?_
  refine r_pcA (pc' := 41) rfl ?_
  refine z_post (by decide) ?_
  refine z_as (U' := (wr vX4_init_33 (qX4_init_33 t))) ((wrP ..).trans rfl) ?_
  have zr33 : Zr UZ_X4_init (wr vX4_init_33 (qX4_init_33 t)) 67 := Zr.cP zr32 (by decide) (by decide)
  have rn33 : Rny (wr vX4_init_33 (qX4_init_33 t)) [0, 1] := Rny.cP rn32 Rny.c
  have hx34 : Ok _ 2 none _ _ (wg w t gX4_init_34) (xat x 66 432) := ok_grow (w' := wg w t gX4_init_34) hx33 rfl rfl rfl rfl (lay_wg hL hb (by decide +kernel)) (by rw [hR.1]; decide) (by rw [hR.2]; decide)
  refine z_aast (pc' := 42) (k := 15) (c := 3) (ci := 8) (by decide) hx34 (hd 21) (wat_new (G := gX4_init_34) (o := 1) (kd := 60 + 3) (n := 16) (by decide +kernel)) (by decide) (by decide) (wat_new (G := gX4_init_34) (o := 63) (kd := 8) (n := 0) (by decide +kernel)) (by decide) rfl rfl rfl ?_
  refine z_as (U' := (wr vX4_init_34 (qX4_init_34 t))) ((wrR ..).trans rfl) ?_
  have zr34 : Zr UZ_X4_init (wr vX4_init_34 (qX4_init_34 t)) 67 := Zr.cR zr33 (by decide)
  have rn34 : Rny (wr vX4_init_34 (qX4_init_34 t)) [0, 1] := Rny.cR rn33 (by decide)
  refine z_iinc (pc' := 45) (v := 16) (L' := [(1, .int 16), (0, .ref t)]) (j := 0) hx34 (hd 22) rfl (by decide) (by decide) rfl rfl ?_
  refine r_goto (tgt := 23) hx34 (hd 23) (by decide) ?_
  refine r_iload_n (pc' := 24) hx34 (hd 12) rfl 0 rfl rfl ?_
  refine r_bipush (pc' := 26) (v := 16) hx34 (hd 13) (by decide) rfl ?_
  refine z_geT 48 hx34 (hd 14) (by decide) (by decide) ?_
  refine z_done (G := gX4_init_34) (G' := G_X4_init) (l := [0, 1]) (T := T_X4_init) (ci := 4) hb rfl rfl rn34 (by decide +kernel) (by decide +kernel) (fun o ho H => by
    have e9 : o = 0 ∨ o = 1 := by simpa using ho
    rcases e9 with e9 | e9
    · subst e9
      exact va_done (S := 67) (ci := 4) (by decide) (by decide) (fun k hk => by
      match k, hk with
      | 0, _ => first | exact trivial | exact rfl
      | 1, _ => first | exact trivial | exact rfl
      | 2, _ => first | exact trivial | exact rfl
      | 3, _ => first | exact trivial | exact rfl
      | n + 4, h => exact absurd h (by rw [show nf 4 = 4 from rfl]; omega))
    · subst e9
      exact va_doneA (c := 3) (by decide) rfl (fun i hi => by
        match i, hi with
        | 0, _ => exact rfl
        | 1, _ => exact rfl
        | 2, _ => exact rfl
        | 3, _ => exact rfl
        | 4, _ => exact rfl
        | 5, _ => exact rfl
        | 6, _ => exact rfl
        | 7, _ => exact rfl
        | 8, _ => exact rfl
        | 9, _ => exact rfl
        | 10, _ => exact rfl
        | 11, _ => exact rfl
        | 12, _ => exact rfl
        | 13, _ => exact rfl
        | 14, _ => exact rfl
        | 15, _ => exact rfl
        | n + 16, h => exact absurd h (by show ¬ (n + 16 < 16); omega))) rfl ?_
  exact q_vretI (ok_grow (w' := wg w t G_X4_init) hx34 rfl rfl rfl rfl (lay_wg hL hb (by decide +kernel)) (by rw [hR.1]; decide) (by rw [hR.2]; decide)) (hd 24)
def qX6_init_0 (t : Nat) : Nat → Nat → Option Nat := fun _ _ => none
def qX6_init_1 (t : Nat) : Nat → Nat → Option Nat := fun a => if 1 ≤ a ∧ a < 1 + 4 then T_X8_init.2.2.1 (a - 1) else (qX6_init_0 t) a
def qX6_init_2 (t : Nat) : Nat → Nat → Option Nat := up2 (qX6_init_1 t) 0 0 (some (t + 1))
def qX6_init_3 (t : Nat) : Nat → Nat → Option Nat := up2 (qX6_init_2 t) 0 1 (some (t + 5))
def qX6_init_4 (t : Nat) : Nat → Nat → Option Nat := up2 (qX6_init_3 t) 0 2 (some (t + 6))
def qX6_init_5 (t : Nat) : Nat → Nat → Option Nat := up2 (qX6_init_4 t) 0 3 (some (t + 7))
def qX6_init_6 (t : Nat) : Nat → Nat → Option Nat := (qX6_init_5 t)
def qX6_init_7 (t : Nat) : Nat → Nat → Option Nat := (qX6_init_6 t)
def qX6_init_8 (t : Nat) : Nat → Nat → Option Nat := (qX6_init_7 t)
def qX6_init_9 (t : Nat) : Nat → Nat → Option Nat := up2 (qX6_init_8 t) 0 4 (some (t + 8))
def qX6_init_10 (t : Nat) : Nat → Nat → Option Nat := (qX6_init_9 t)
def gX6_init_0 : List (Nat × Nat) := [(46, 0)]
def gX6_init_1 : List (Nat × Nat) := gX6_init_0 ++ [(48, 0)]
def gX6_init_2 : List (Nat × Nat) := gX6_init_0 ++ G_X8_init
def gX6_init_3 : List (Nat × Nat) := gX6_init_2 ++ [(20, 6)]
def gX6_init_4 : List (Nat × Nat) := gX6_init_3 ++ [(20, 6)]
def gX6_init_5 : List (Nat × Nat) := gX6_init_4 ++ [(36, 6)]
def gX6_init_6 : List (Nat × Nat) := gX6_init_5 ++ [(20, 3)]
def G_X6_init : List (Nat × Nat) := [(6, 0), (8, 0), (21, 2), (20, 2), (20, 8), (20, 6), (20, 6), (36, 6), (20, 3)]
abbrev yX6_init : MethodName := ({ cls := "CribbageRoom$State", name := "<init>", desc := "()V" } : Jvm.MethodName)
def tbX6_init : List (Nat × Instr × Nat) := [(0, .aload_n 0, 1), (1, .invokespecial 3, 3), (4, .aload_n 0, 1), (5, .new 9, 3), (8, .dup, 1), (9, .invokespecial 11, 3), (12, .putfield 12, 3), (15, .aload_n 0, 1), (16, .bipush 6, 2), (18, .newarray .int, 2), (20, .putfield 18, 3), (23, .aload_n 0, 1), (24, .bipush 6, 2), (26, .newarray .int, 2), (28, .putfield 22, 3), (31, .aload_n 0, 1), (32, .bipush 6, 2), (34, .anewarray 25, 3), (37, .putfield 27, 3), (40, .aload_n 0, 1), (41, .iconst 3, 1), (42, .newarray .int, 2), (44, .dup, 1), (45, .iconst 0, 1), (46, .iconst 1, 1), (47, .iastore, 1), (48, .dup, 1), (49, .iconst 1, 1), (50, .iconst 0, 1), (51, .iastore, 1), (52, .dup, 1), (53, .iconst 2, 1), (54, .bipush 15, 2), (56, .iastore, 1), (57, .putfield 31, 3), (60, .aload_n 0, 1), (61, .iconst (-1), 1), (62, .putfield 34, 3), (65, .return_, 1)]
theorem dX6_init : ∀ q ∈ tbX6_init, decode prog_8_method_1_code q.1 = .ok q.2 := by decide +kernel
set_option maxRecDepth 50000 in
set_option maxHeartbeats 4000000 in
theorem cX6_init (l : Launch) (w : WX) (t : Nat) (hb : Bel w t) (hz : wz w ≤ t) (hL : Lay w) (M : Mem) : CtI l w t 6 yX6_init prog_8_method_1_code 1 2 40 8 46 [.ref t] (put M t 9 UZ_X6_init) G_X6_init (put M t 9 T_X6_init) := by
  refine ctI_of (by decide) rfl (Nat.le_of_ble_eq_true rfl) (fun x hl hsz hR hin hx0 hb9 => ?_)
  subst hl
  have hd : ∀ i, DAt (xc x).code (tbX6_init[i]?) := fun i => by rw [hb9]; exact dat_of dX6_init i
  show C (xat x 0 0) (wg w t gX6_init_0) (Qi x w t G_X6_init (put M t 9 T_X6_init) 8 46) 1 0 [(0, .ref t)] [] (put M t 9 UZ_X6_init) (some ())
  refine z_as (U' := (wr vX6_init_0 (qX6_init_0 t))) rfl ?_
  have zr0 : Zr UZ_X6_init (wr vX6_init_0 (qX6_init_0 t)) 1 := Zr.z0 rfl rfl rfl rfl
  have rn0 : Rny (wr vX6_init_0 (qX6_init_0 t)) [0] := Rny.z9 rfl
  refine r_aload_n (pc' := 1) hx0 (hd 0) rfl 0 rfl rfl ?_
  refine q_objI hx0 (hd 1) mlI_6_3 ob_in ob_cd ⟨Nat.le_of_ble_eq_true rfl, Nat.le_of_ble_eq_true rfl⟩ (Nat.le_of_ble_eq_true rfl) ?_
  refine r_pcA (pc' := 4) rfl ?_
  refine r_aload_n (pc' := 5) hx0 (hd 2) rfl 0 rfl rfl ?_
  refine q_newO (G := gX6_init_0) (K := 0) (N := 0) (ci := 8) (o := 1) tyX8 rfl hb hz (by decide) (by rw [hsz]; exact (by omega : t + 1 + 0 = t + 1)) hx0 (hd 3) rfl inX8 tyX8_ok cl_6_9 ins_8 ini_8 (by decide) (by rw [hR.1]; decide) (by rw [hR.2]; decide) ((put_at (by decide)).1.trans (zr0 1 (by decide)).1) ((put_at (by decide)).2.1.trans (zr0 1 (by decide)).2.1) ((put_at (by decide)).2.2.1.trans (zr0 1 (by decide)).2.2.1) dvX8 ?_
  have hx1 : Ok _ 1 none _ _ (wg w t gX6_init_1) (xat x 1 13) := ok_grow (w' := wg w t gX6_init_1) hx0 rfl rfl rfl rfl (lay_wg hL hb (by decide +kernel)) (by rw [hR.1]; decide) (by rw [hR.2]; decide)
  refine r_dup (pc' := 9) hx1 (hd 4) rfl rfl ?_
  refine z_pre (G0 := gX6_init_0) (o := 1) (s := 4) (U0 := UZ_X8_init) hb rfl (by decide) ((zr0 1 (by decide)).1.trans rfl) ((zr0 1 (by decide)).2.1.trans rfl) ((zr0 1 (by decide)).2.2.1.trans rfl) ((zr0 1 (by decide)).2.2.2.trans rfl) ?_
  refine q_callIN (G0 := gX6_init_0) (K := 1) (N := 13) (ci := 8) (o := 1) (As := []) (rest := [.ref (t + 1), .ref t]) rfl hb (by rw [hsz]; exact (by omega : t + 1 + 1 = t + 2)) hx1 (hd 5) mdI_X8_init rfl miI_X8_init mlI_6_11 (cX8_init (xl x) (wg w t gX6_init_0) (t + 1) (show Bel (wg w t gX6_init_0) (t + 1) from bel_wg hb) (Nat.le_trans hz (Nat.le_add_right _ _)) (lay_wg hL hb (by decide +kernel)) _) ⟨Nat.le_of_ble_eq_true rfl, Nat.le_of_ble_eq_true rfl⟩ (by rw [hR.1]; decide) (by rw [hR.2]; decide) rfl rfl (Nat.le_of_ble_eq_true rfl) ?_
  refine r_pcA (pc' := 12) rfl ?_
  refine z_post (by decide) ?_
  refine z_as (U' := (wr vX6_init_1 (qX6_init_1 t))) ((wrP ..).trans rfl) ?_
  have zr1 : Zr UZ_X6_init (wr vX6_init_1 (qX6_init_1 t)) 5 := Zr.cP zr0 (by decide) (by decide)
  have rn1 : Rny (wr vX6_init_1 (qX6_init_1 t)) [0] := Rny.cP rn0 Rny.c
  have hx2 : Ok _ 1 none _ _ (wg w t gX6_init_2) (xat x 4 25) := ok_grow (w' := wg w t gX6_init_2) hx1 rfl rfl rfl rfl (lay_wg hL hb (by decide +kernel)) (by rw [hR.1]; decide) (by rw [hR.2]; decide)
  refine z_putR (pc' := 15) (o := 1) (by decide) hx2 (hd 6) hin fw_6_12 (wat_new (G := gX6_init_2) (o := 0) (kd := 40 + 6) (n := 0) (by decide +kernel)) rfl (by decide) rfl rfl rfl ?_
  refine z_as (U' := (wr vX6_init_2 (qX6_init_2 t))) ((wrR ..).trans rfl) ?_
  have zr2 : Zr UZ_X6_init (wr vX6_init_2 (qX6_init_2 t)) 5 := Zr.cR zr1 (by decide)
  have rn2 : Rny (wr vX6_init_2 (qX6_init_2 t)) [0] := Rny.cR rn1 (by decide)
  refine r_aload_n (pc' := 16) hx2 (hd 7) rfl 0 rfl rfl ?_
  refine r_bipush (pc' := 18) (v := 6) hx2 (hd 8) (by decide) rfl ?_
  refine q_newa (gn := 6) (G := gX6_init_2) (K := 4) (N := 25) (kd := 20) (c := 0) (n := 6) (o := 5) (ty := .int) (e9 := .inl (fun _ => 0)) rfl hb hz (by decide) (by rw [hsz]; exact (by omega : t + 1 + 4 = t + 5)) hx2 (hd 9) rfl ar_int rfl (fun _ _ h => h) (by decide) (by decide) (by decide) (by rw [hR.1]; decide) (by rw [hR.2]; decide) (fun _ => rfl) (ce_int (by decide) (zr2 5 (by decide)).1) (nr_put (by decide) (zr2 5 (by decide)).2.2.1) ?_
  have hx3 : Ok _ 1 none _ _ (wg w t gX6_init_3) (xat x 5 31) := ok_grow (w' := wg w t gX6_init_3) hx2 rfl rfl rfl rfl (lay_wg hL hb (by decide +kernel)) (by rw [hR.1]; decide) (by rw [hR.2]; decide)
  refine z_putR (pc' := 23) (o := 5) (by decide) hx3 (hd 10) hin fw_6_18 (wat_new (G := gX6_init_3) (o := 0) (kd := 40 + 6) (n := 0) (by decide +kernel)) rfl (by decide) rfl rfl rfl ?_
  refine z_as (U' := (wr vX6_init_3 (qX6_init_3 t))) ((wrR ..).trans rfl) ?_
  have zr3 : Zr UZ_X6_init (wr vX6_init_3 (qX6_init_3 t)) 6 := Zr.cR zr2 (by decide)
  have rn3 : Rny (wr vX6_init_3 (qX6_init_3 t)) [0] := Rny.cR rn2 (by decide)
  refine r_aload_n (pc' := 24) hx3 (hd 11) rfl 0 rfl rfl ?_
  refine r_bipush (pc' := 26) (v := 6) hx3 (hd 12) (by decide) rfl ?_
  refine q_newa (gn := 6) (G := gX6_init_3) (K := 5) (N := 31) (kd := 20) (c := 0) (n := 6) (o := 6) (ty := .int) (e9 := .inl (fun _ => 0)) rfl hb hz (by decide) (by rw [hsz]; exact (by omega : t + 1 + 5 = t + 6)) hx3 (hd 13) rfl ar_int rfl (fun _ _ h => h) (by decide) (by decide) (by decide) (by rw [hR.1]; decide) (by rw [hR.2]; decide) (fun _ => rfl) (ce_int (by decide) (zr3 6 (by decide)).1) (nr_put (by decide) (zr3 6 (by decide)).2.2.1) ?_
  have hx4 : Ok _ 1 none _ _ (wg w t gX6_init_4) (xat x 6 37) := ok_grow (w' := wg w t gX6_init_4) hx3 rfl rfl rfl rfl (lay_wg hL hb (by decide +kernel)) (by rw [hR.1]; decide) (by rw [hR.2]; decide)
  refine z_putR (pc' := 31) (o := 6) (by decide) hx4 (hd 14) hin fw_6_22 (wat_new (G := gX6_init_4) (o := 0) (kd := 40 + 6) (n := 0) (by decide +kernel)) rfl (by decide) rfl rfl rfl ?_
  refine z_as (U' := (wr vX6_init_4 (qX6_init_4 t))) ((wrR ..).trans rfl) ?_
  have zr4 : Zr UZ_X6_init (wr vX6_init_4 (qX6_init_4 t)) 7 := Zr.cR zr3 (by decide)
  have rn4 : Rny (wr vX6_init_4 (qX6_init_4 t)) [0] := Rny.cR rn3 (by decide)
  refine r_aload_n (pc' := 32) hx4 (hd 15) rfl 0 rfl rfl ?_
  refine r_bipush (pc' := 34) (v := 6) hx4 (hd 16) (by decide) rfl ?_
  refine q_anew (G := gX6_init_4) (K := 6) (N := 37) (kd := 36) (c := 7) (n := 6) (o := 7) rfl hb hz (by decide) (by rw [hsz]; exact (by omega : t + 1 + 6 = t + 7)) hx4 (hd 17) cl_6_25 ao_Text rfl (by decide) (by decide) (by decide) (by rw [hR.1]; decide) (by rw [hR.2]; decide) (ce_txa (by decide) (zr4 7 (by decide)).2.2.1) (nr_put (by decide) (zr4 7 (by decide)).2.2.1) ?_
  have hx5 : Ok _ 1 none _ _ (wg w t gX6_init_5) (xat x 7 43) := ok_grow (w' := wg w t gX6_init_5) hx4 rfl rfl rfl rfl (lay_wg hL hb (by decide +kernel)) (by rw [hR.1]; decide) (by rw [hR.2]; decide)
  refine z_putR (pc' := 40) (o := 7) (by decide) hx5 (hd 18) hin fw_6_27 (wat_new (G := gX6_init_5) (o := 0) (kd := 40 + 6) (n := 0) (by decide +kernel)) rfl (by decide) rfl rfl rfl ?_
  refine z_as (U' := (wr vX6_init_5 (qX6_init_5 t))) ((wrR ..).trans rfl) ?_
  have zr5 : Zr UZ_X6_init (wr vX6_init_5 (qX6_init_5 t)) 8 := Zr.cR zr4 (by decide)
  have rn5 : Rny (wr vX6_init_5 (qX6_init_5 t)) [0] := Rny.cR rn4 (by decide)
  refine r_aload_n (pc' := 41) hx5 (hd 19) rfl 0 rfl rfl ?_
  refine r_iconst (pc' := 42) (v := 3) hx5 (hd 20) (by decide) rfl ?_
  refine q_newa (gn := 3) (G := gX6_init_5) (K := 7) (N := 43) (kd := 20) (c := 0) (n := 3) (o := 8) (ty := .int) (e9 := .inl (fun _ => 0)) rfl hb hz (by decide) (by rw [hsz]; exact (by omega : t + 1 + 7 = t + 8)) hx5 (hd 21) rfl ar_int rfl (fun _ _ h => h) (by decide) (by decide) (by decide) (by rw [hR.1]; decide) (by rw [hR.2]; decide) (fun _ => rfl) (ce_int (by decide) (zr5 8 (by decide)).1) (nr_put (by decide) (zr5 8 (by decide)).2.2.1) ?_
  have hx6 : Ok _ 1 none _ _ (wg w t gX6_init_6) (xat x 8 46) := ok_grow (w' := wg w t gX6_init_6) hx5 rfl rfl rfl rfl (lay_wg hL hb (by decide +kernel)) (by rw [hR.1]; decide) (by rw [hR.2]; decide)
  refine r_dup (pc' := 45) hx6 (hd 22) rfl rfl ?_
  refine r_iconst (pc' := 46) (v := 0) hx6 (hd 23) (by decide) rfl ?_
  refine r_iconst (pc' := 47) (v := 1) hx6 (hd 24) (by decide) rfl ?_
  refine z_iast (pc' := 48) (k := 0) (by decide) hx6 (hd 25) (wat_new (G := gX6_init_6) (o := 8) (kd := 20) (n := 3) (by decide +kernel)) (by decide) (by decide) rfl ?_
  refine z_as (U' := (wr vX6_init_6 (qX6_init_6 t))) ((wrI ..).trans rfl) ?_
  have zr6 : Zr UZ_X6_init (wr vX6_init_6 (qX6_init_6 t)) 9 := Zr.cI zr5 (by decide)
  have rn6 : Rny (wr vX6_init_6 (qX6_init_6 t)) [0] := Rny.cI rn5
  refine r_dup (pc' := 49) hx6 (hd 26) rfl rfl ?_
  refine r_iconst (pc' := 50) (v := 1) hx6 (hd 27) (by decide) rfl ?_
  refine r_iconst (pc' := 51) (v := 0) hx6 (hd 28) (by decide) rfl ?_
  refine z_iast (pc' := 52) (k := 1) (by decide) hx6 (hd 29) (wat_new (G := gX6_init_6) (o := 8) (kd := 20) (n := 3) (by decide +kernel)) (by decide) (by decide) rfl ?_
  refine z_as (U' := (wr vX6_init_7 (qX6_init_7 t))) ((wrI ..).trans rfl) ?_
  have zr7 : Zr UZ_X6_init (wr vX6_init_7 (qX6_init_7 t)) 9 := Zr.cI zr6 (by decide)
  have rn7 : Rny (wr vX6_init_7 (qX6_init_7 t)) [0] := Rny.cI rn6
  refine r_dup (pc' := 53) hx6 (hd 30) rfl rfl ?_
  refine r_iconst (pc' := 54) (v := 2) hx6 (hd 31) (by decide) rfl ?_
  refine r_bipush (pc' := 56) (v := 15) hx6 (hd 32) (by decide) rfl ?_
  refine z_iast (pc' := 57) (k := 2) (by decide) hx6 (hd 33) (wat_new (G := gX6_init_6) (o := 8) (kd := 20) (n := 3) (by decide +kernel)) (by decide) (by decide) rfl ?_
  refine z_as (U' := (wr vX6_init_8 (qX6_init_8 t))) ((wrI ..).trans rfl) ?_
  have zr8 : Zr UZ_X6_init (wr vX6_init_8 (qX6_init_8 t)) 9 := Zr.cI zr7 (by decide)
  have rn8 : Rny (wr vX6_init_8 (qX6_init_8 t)) [0] := Rny.cI rn7
  refine z_putR (pc' := 60) (o := 8) (by decide) hx6 (hd 34) hin fw_6_31 (wat_new (G := gX6_init_6) (o := 0) (kd := 40 + 6) (n := 0) (by decide +kernel)) rfl (by decide) rfl rfl rfl ?_
  refine z_as (U' := (wr vX6_init_9 (qX6_init_9 t))) ((wrR ..).trans rfl) ?_
  have zr9 : Zr UZ_X6_init (wr vX6_init_9 (qX6_init_9 t)) 9 := Zr.cR zr8 (by decide)
  have rn9 : Rny (wr vX6_init_9 (qX6_init_9 t)) [0] := Rny.cR rn8 (by decide)
  refine r_aload_n (pc' := 61) hx6 (hd 35) rfl 0 rfl rfl ?_
  refine r_iconst (pc' := 62) (v := (-1)) hx6 (hd 36) (by decide) rfl ?_
  refine z_putI (pc' := 65) (by decide) hx6 (hd 37) hin fw_6_34 (wat_new (G := gX6_init_6) (o := 0) (kd := 40 + 6) (n := 0) (by decide +kernel)) rfl (by decide) rfl rfl rfl ?_
  refine z_as (U' := (wr vX6_init_10 (qX6_init_10 t))) ((wrI ..).trans rfl) ?_
  have zr10 : Zr UZ_X6_init (wr vX6_init_10 (qX6_init_10 t)) 9 := Zr.cI zr9 (by decide)
  have rn10 : Rny (wr vX6_init_10 (qX6_init_10 t)) [0] := Rny.cI rn9
  refine z_done (G := gX6_init_6) (G' := G_X6_init) (l := [0]) (T := T_X6_init) (ci := 6) hb rfl rfl rn10 (by decide +kernel) (by decide +kernel) (fun o ho H => by
    have e9 : o = 0 := by simpa using ho
    subst e9
    exact va_done (S := 9) (ci := 6) (by decide) (by decide) (fun k hk => by
      match k, hk with
      | 0, _ => first | exact trivial | exact rfl
      | 1, _ => first | exact trivial | exact rfl
      | 2, _ => first | exact trivial | exact rfl
      | 3, _ => first | exact trivial | exact rfl
      | 4, _ => first | exact trivial | exact rfl
      | 5, _ => first | exact trivial | exact rfl
      | 6, _ => first | exact trivial | exact rfl
      | 7, _ => first | exact trivial | exact rfl
      | 8, _ => first | exact trivial | exact rfl
      | 9, _ => first | exact trivial | exact rfl
      | n + 10, h => exact absurd h (by rw [show nf 6 = 10 from rfl]; omega))) rfl ?_
  exact q_vretI (ok_grow (w' := wg w t G_X6_init) hx6 rfl rfl rfl rfl (lay_wg hL hb (by decide +kernel)) (by rw [hR.1]; decide) (by rw [hR.2]; decide)) (hd 38)
def qX5_init_0 (t : Nat) : Nat → Nat → Option Nat := fun _ _ => none
def qX5_init_1 (t : Nat) : Nat → Nat → Option Nat := up2 (qX5_init_0 t) 0 0 (some (t + 1))
def qX5_init_2 (t : Nat) : Nat → Nat → Option Nat := fun a => if 2 ≤ a ∧ a < 2 + 3 then T_X9_init_0.2.2.1 (a - 2) else (qX5_init_1 t) a
def qX5_init_3 (t : Nat) : Nat → Nat → Option Nat := up2 (qX5_init_2 t) 0 1 (some (t + 2))
def qX5_init_4 (t : Nat) : Nat → Nat → Option Nat := (qX5_init_3 t)
def gX5_init_0 : List (Nat × Nat) := [(45, 0)]
def gX5_init_1 : List (Nat × Nat) := gX5_init_0 ++ [(20, 400)]
def gX5_init_2 : List (Nat × Nat) := gX5_init_1 ++ [(49, 0)]
def gX5_init_3 : List (Nat × Nat) := gX5_init_1 ++ G_X9_init_0
def G_X5_init : List (Nat × Nat) := [(5, 0), (20, 400), (9, 0), (23, 0), (23, 0)]
abbrev yX5_init : MethodName := ({ cls := "CribbageRoom$Reader", name := "<init>", desc := "()V" } : Jvm.MethodName)
def tbX5_init : List (Nat × Instr × Nat) := [(0, .aload_n 0, 1), (1, .invokespecial 3, 3), (4, .aload_n 0, 1), (5, .sipush 400, 3), (8, .newarray .int, 2), (10, .putfield 9, 3), (13, .aload_n 0, 1), (14, .new 15, 3), (17, .dup, 1), (18, .invokespecial 17, 3), (21, .putfield 18, 3), (24, .aload_n 0, 1), (25, .iconst (-1), 1), (26, .putfield 22, 3), (29, .return_, 1)]
theorem dX5_init : ∀ q ∈ tbX5_init, decode prog_7_method_1_code q.1 = .ok q.2 := by decide +kernel
set_option maxRecDepth 50000 in
set_option maxHeartbeats 4000000 in
theorem cX5_init (l : Launch) (w : WX) (t : Nat) (hb : Bel w t) (hz : wz w ≤ t) (hL : Lay w) (M : Mem) : CtI l w t 5 yX5_init prog_7_method_1_code 1 2 40 4 1277 [.ref t] (put M t 5 UZ_X5_init) G_X5_init (put M t 5 T_X5_init) := by
  refine ctI_of (by decide) rfl (Nat.le_of_ble_eq_true rfl) (fun x hl hsz hR hin hx0 hb9 => ?_)
  subst hl
  have hd : ∀ i, DAt (xc x).code (tbX5_init[i]?) := fun i => by rw [hb9]; exact dat_of dX5_init i
  show C (xat x 0 0) (wg w t gX5_init_0) (Qi x w t G_X5_init (put M t 5 T_X5_init) 4 1277) 1 0 [(0, .ref t)] [] (put M t 5 UZ_X5_init) (some ())
  refine z_as (U' := (wr vX5_init_0 (qX5_init_0 t))) rfl ?_
  have zr0 : Zr UZ_X5_init (wr vX5_init_0 (qX5_init_0 t)) 1 := Zr.z0 rfl rfl rfl rfl
  have rn0 : Rny (wr vX5_init_0 (qX5_init_0 t)) [0] := Rny.z9 rfl
  refine r_aload_n (pc' := 1) hx0 (hd 0) rfl 0 rfl rfl ?_
  refine q_objI hx0 (hd 1) mlI_5_3 ob_in ob_cd ⟨Nat.le_of_ble_eq_true rfl, Nat.le_of_ble_eq_true rfl⟩ (Nat.le_of_ble_eq_true rfl) ?_
  refine r_pcA (pc' := 4) rfl ?_
  refine r_aload_n (pc' := 5) hx0 (hd 2) rfl 0 rfl rfl ?_
  refine r_sipush (pc' := 8) (v := 400) hx0 (hd 3) (by decide) rfl ?_
  refine q_newa (gn := 400) (G := gX5_init_0) (K := 0) (N := 0) (kd := 20) (c := 0) (n := 400) (o := 1) (ty := .int) (e9 := .inl (fun _ => 0)) rfl hb hz (by decide) (by rw [hsz]; exact (by omega : t + 1 + 0 = t + 1)) hx0 (hd 4) rfl ar_int rfl (fun _ _ h => h) (by decide) (by decide) (by decide) (by rw [hR.1]; decide) (by rw [hR.2]; decide) (fun _ => rfl) (ce_int (by decide) (zr0 1 (by decide)).1) (nr_put (by decide) (zr0 1 (by decide)).2.2.1) ?_
  have hx1 : Ok _ 1 none _ _ (wg w t gX5_init_1) (xat x 1 400) := ok_grow (w' := wg w t gX5_init_1) hx0 rfl rfl rfl rfl (lay_wg hL hb (by decide +kernel)) (by rw [hR.1]; decide) (by rw [hR.2]; decide)
  refine z_putR (pc' := 13) (o := 1) (by decide) hx1 (hd 5) hin fw_5_9 (wat_new (G := gX5_init_1) (o := 0) (kd := 40 + 5) (n := 0) (by decide +kernel)) rfl (by decide) rfl rfl rfl ?_
  refine z_as (U' := (wr vX5_init_1 (qX5_init_1 t))) ((wrR ..).trans rfl) ?_
  have zr1 : Zr UZ_X5_init (wr vX5_init_1 (qX5_init_1 t)) 2 := Zr.cR zr0 (by decide)
  have rn1 : Rny (wr vX5_init_1 (qX5_init_1 t)) [0] := Rny.cR rn0 (by decide)
  refine r_aload_n (pc' := 14) hx1 (hd 6) rfl 0 rfl rfl ?_
  refine q_newO (G := gX5_init_1) (K := 1) (N := 400) (ci := 9) (o := 2) tyX9 rfl hb hz (by decide) (by rw [hsz]; exact (by omega : t + 1 + 1 = t + 2)) hx1 (hd 7) rfl inX9 tyX9_ok cl_5_15 ins_9 ini_9 (by decide) (by rw [hR.1]; decide) (by rw [hR.2]; decide) ((put_at (by decide)).1.trans (zr1 2 (by decide)).1) ((put_at (by decide)).2.1.trans (zr1 2 (by decide)).2.1) ((put_at (by decide)).2.2.1.trans (zr1 2 (by decide)).2.2.1) dvX9 ?_
  have hx2 : Ok _ 1 none _ _ (wg w t gX5_init_2) (xat x 2 405) := ok_grow (w' := wg w t gX5_init_2) hx1 rfl rfl rfl rfl (lay_wg hL hb (by decide +kernel)) (by rw [hR.1]; decide) (by rw [hR.2]; decide)
  refine r_dup (pc' := 18) hx2 (hd 8) rfl rfl ?_
  refine z_pre (G0 := gX5_init_1) (o := 2) (s := 3) (U0 := UZ_X9_init_0) hb rfl (by decide) ((zr1 2 (by decide)).1.trans rfl) ((zr1 2 (by decide)).2.1.trans rfl) ((zr1 2 (by decide)).2.2.1.trans rfl) ((zr1 2 (by decide)).2.2.2.trans rfl) ?_
  refine q_callI (G0 := gX5_init_1) (K := 2) (N := 405) (ci := 9) (o := 2) (As := []) (rest := [.ref (t + 2), .ref t]) rfl hb (by rw [hsz]; exact (by omega : t + 1 + 2 = t + 3)) hx2 (hd 9) mdI_X9_init_0 rfl miI_X9_init_0 mlI_5_17 (cX9_init_0 (xl x) (wg w t gX5_init_1) (t + 2) (show Bel (wg w t gX5_init_1) (t + 2) from bel_wg hb) (Nat.le_trans hz (Nat.le_add_right _ _)) (lay_wg hL hb (by decide +kernel)) _) ⟨Nat.le_of_ble_eq_true rfl, Nat.le_of_ble_eq_true rfl⟩ (by rw [hR.1]; decide) (by rw [hR.2]; decide) rfl rfl (Nat.le_of_ble_eq_true rfl) ?_
  refine r_pcA (pc' := 21) rfl ?_
  refine z_post (by decide) ?_
  refine z_as (U' := (wr vX5_init_2 (qX5_init_2 t))) ((wrP ..).trans rfl) ?_
  have zr2 : Zr UZ_X5_init (wr vX5_init_2 (qX5_init_2 t)) 5 := Zr.cP zr1 (by decide) (by decide)
  have rn2 : Rny (wr vX5_init_2 (qX5_init_2 t)) [0] := Rny.cP rn1 Rny.c
  have hx3 : Ok _ 1 none _ _ (wg w t gX5_init_3) (xat x 4 1277) := ok_grow (w' := wg w t gX5_init_3) hx2 rfl rfl rfl rfl (lay_wg hL hb (by decide +kernel)) (by rw [hR.1]; decide) (by rw [hR.2]; decide)
  refine z_putR (pc' := 24) (o := 2) (by decide) hx3 (hd 10) hin fw_5_18 (wat_new (G := gX5_init_3) (o := 0) (kd := 40 + 5) (n := 0) (by decide +kernel)) rfl (by decide) rfl rfl rfl ?_
  refine z_as (U' := (wr vX5_init_3 (qX5_init_3 t))) ((wrR ..).trans rfl) ?_
  have zr3 : Zr UZ_X5_init (wr vX5_init_3 (qX5_init_3 t)) 5 := Zr.cR zr2 (by decide)
  have rn3 : Rny (wr vX5_init_3 (qX5_init_3 t)) [0] := Rny.cR rn2 (by decide)
  refine r_aload_n (pc' := 25) hx3 (hd 11) rfl 0 rfl rfl ?_
  refine r_iconst (pc' := 26) (v := (-1)) hx3 (hd 12) (by decide) rfl ?_
  refine z_putI (pc' := 29) (by decide) hx3 (hd 13) hin fw_5_22 (wat_new (G := gX5_init_3) (o := 0) (kd := 40 + 5) (n := 0) (by decide +kernel)) rfl (by decide) rfl rfl rfl ?_
  refine z_as (U' := (wr vX5_init_4 (qX5_init_4 t))) ((wrI ..).trans rfl) ?_
  have zr4 : Zr UZ_X5_init (wr vX5_init_4 (qX5_init_4 t)) 5 := Zr.cI zr3 (by decide)
  have rn4 : Rny (wr vX5_init_4 (qX5_init_4 t)) [0] := Rny.cI rn3
  refine z_done (G := gX5_init_3) (G' := G_X5_init) (l := [0]) (T := T_X5_init) (ci := 5) hb rfl rfl rn4 (by decide +kernel) (by decide +kernel) (fun o ho H => by
    have e9 : o = 0 := by simpa using ho
    subst e9
    exact va_done (S := 5) (ci := 5) (by decide) (by decide) (fun k hk => by
      match k, hk with
      | 0, _ => first | exact trivial | exact rfl
      | 1, _ => first | exact trivial | exact rfl
      | 2, _ => first | exact trivial | exact rfl
      | 3, _ => first | exact trivial | exact rfl
      | 4, _ => first | exact trivial | exact rfl
      | 5, _ => first | exact trivial | exact rfl
      | 6, _ => first | exact trivial | exact rfl
      | 7, _ => first | exact trivial | exact rfl
      | 8, _ => first | exact trivial | exact rfl
      | 9, _ => first | exact trivial | exact rfl
      | n + 10, h => exact absurd h (by rw [show nf 5 = 10 from rfl]; omega))) rfl ?_
  exact q_vretI (ok_grow (w' := wg w t G_X5_init) hx3 rfl rfl rfl rfl (lay_wg hL hb (by decide +kernel)) (by rw [hR.1]; decide) (by rw [hR.2]; decide)) (hd 14)
def qX1_init_0 (t : Nat) : Nat → Nat → Option Nat := fun _ _ => none
def qX1_init_1 (t : Nat) : Nat → Nat → Option Nat := up2 (qX1_init_0 t) 0 0 (some (t + 1))
def qX1_init_2 (t : Nat) : Nat → Nat → Option Nat := fun a => if 2 ≤ a ∧ a < 2 + 4 then T_X8_init.2.2.1 (a - 2) else (qX1_init_1 t) a
def qX1_init_3 (t : Nat) : Nat → Nat → Option Nat := up2 (qX1_init_2 t) 1 0 (some (t + 2))
def qX1_init_4 (t : Nat) : Nat → Nat → Option Nat := fun a => if 6 ≤ a ∧ a < 6 + 4 then T_X8_init.2.2.1 (a - 6) else (qX1_init_3 t) a
def qX1_init_5 (t : Nat) : Nat → Nat → Option Nat := up2 (qX1_init_4 t) 1 1 (some (t + 6))
def qX1_init_6 (t : Nat) : Nat → Nat → Option Nat := fun a => if 10 ≤ a ∧ a < 10 + 4 then T_X8_init.2.2.1 (a - 10) else (qX1_init_5 t) a
def qX1_init_7 (t : Nat) : Nat → Nat → Option Nat := up2 (qX1_init_6 t) 1 2 (some (t + 10))
def qX1_init_8 (t : Nat) : Nat → Nat → Option Nat := fun a => if 14 ≤ a ∧ a < 14 + 4 then T_X8_init.2.2.1 (a - 14) else (qX1_init_7 t) a
def qX1_init_9 (t : Nat) : Nat → Nat → Option Nat := up2 (qX1_init_8 t) 1 3 (some (t + 14))
def qX1_init_10 (t : Nat) : Nat → Nat → Option Nat := fun a => if 18 ≤ a ∧ a < 18 + 4 then T_X8_init.2.2.1 (a - 18) else (qX1_init_9 t) a
def qX1_init_11 (t : Nat) : Nat → Nat → Option Nat := up2 (qX1_init_10 t) 1 4 (some (t + 18))
def qX1_init_12 (t : Nat) : Nat → Nat → Option Nat := fun a => if 22 ≤ a ∧ a < 22 + 4 then T_X8_init.2.2.1 (a - 22) else (qX1_init_11 t) a
def qX1_init_13 (t : Nat) : Nat → Nat → Option Nat := up2 (qX1_init_12 t) 1 5 (some (t + 22))
def qX1_init_14 (t : Nat) : Nat → Nat → Option Nat := fun a => if 26 ≤ a ∧ a < 26 + 4 then T_X8_init.2.2.1 (a - 26) else (qX1_init_13 t) a
def qX1_init_15 (t : Nat) : Nat → Nat → Option Nat := up2 (qX1_init_14 t) 1 6 (some (t + 26))
def qX1_init_16 (t : Nat) : Nat → Nat → Option Nat := fun a => if 30 ≤ a ∧ a < 30 + 4 then T_X8_init.2.2.1 (a - 30) else (qX1_init_15 t) a
def qX1_init_17 (t : Nat) : Nat → Nat → Option Nat := up2 (qX1_init_16 t) 1 7 (some (t + 30))
def qX1_init_18 (t : Nat) : Nat → Nat → Option Nat := fun a => if 34 ≤ a ∧ a < 34 + 4 then T_X8_init.2.2.1 (a - 34) else (qX1_init_17 t) a
def qX1_init_19 (t : Nat) : Nat → Nat → Option Nat := up2 (qX1_init_18 t) 1 8 (some (t + 34))
def gX1_init_0 : List (Nat × Nat) := [(41, 0)]
def gX1_init_1 : List (Nat × Nat) := gX1_init_0 ++ [(63, 9)]
def gX1_init_2 : List (Nat × Nat) := gX1_init_1 ++ [(48, 0)]
def gX1_init_3 : List (Nat × Nat) := gX1_init_1 ++ G_X8_init
def gX1_init_4 : List (Nat × Nat) := gX1_init_3 ++ [(48, 0)]
def gX1_init_5 : List (Nat × Nat) := gX1_init_3 ++ G_X8_init
def gX1_init_6 : List (Nat × Nat) := gX1_init_5 ++ [(48, 0)]
def gX1_init_7 : List (Nat × Nat) := gX1_init_5 ++ G_X8_init
def gX1_init_8 : List (Nat × Nat) := gX1_init_7 ++ [(48, 0)]
def gX1_init_9 : List (Nat × Nat) := gX1_init_7 ++ G_X8_init
def gX1_init_10 : List (Nat × Nat) := gX1_init_9 ++ [(48, 0)]
def gX1_init_11 : List (Nat × Nat) := gX1_init_9 ++ G_X8_init
def gX1_init_12 : List (Nat × Nat) := gX1_init_11 ++ [(48, 0)]
def gX1_init_13 : List (Nat × Nat) := gX1_init_11 ++ G_X8_init
def gX1_init_14 : List (Nat × Nat) := gX1_init_13 ++ [(48, 0)]
def gX1_init_15 : List (Nat × Nat) := gX1_init_13 ++ G_X8_init
def gX1_init_16 : List (Nat × Nat) := gX1_init_15 ++ [(48, 0)]
def gX1_init_17 : List (Nat × Nat) := gX1_init_15 ++ G_X8_init
def gX1_init_18 : List (Nat × Nat) := gX1_init_17 ++ [(48, 0)]
def gX1_init_19 : List (Nat × Nat) := gX1_init_17 ++ G_X8_init
def G_X1_init : List (Nat × Nat) := [(1, 0), (31, 9), (8, 0), (21, 2), (20, 2), (20, 8), (8, 0), (21, 2), (20, 2), (20, 8), (8, 0), (21, 2), (20, 2), (20, 8), (8, 0), (21, 2), (20, 2), (20, 8), (8, 0), (21, 2), (20, 2), (20, 8), (8, 0), (21, 2), (20, 2), (20, 8), (8, 0), (21, 2), (20, 2), (20, 8), (8, 0), (21, 2), (20, 2), (20, 8), (8, 0), (21, 2), (20, 2), (20, 8)]
abbrev yX1_init : MethodName := ({ cls := "CribbageRoom$Ending", name := "<init>", desc := "()V" } : Jvm.MethodName)
def tbX1_init : List (Nat × Instr × Nat) := [(0, .aload_n 0, 1), (1, .invokespecial 3, 3), (4, .aload_n 0, 1), (5, .bipush 9, 2), (7, .anewarray 9, 3), (10, .putfield 11, 3), (13, .iconst 0, 1), (14, .istore_n 1, 1), (15, .iload_n 1, 1), (16, .aload_n 0, 1), (17, .getfield 11, 3), (20, .arraylength, 1), (21, .if_icmp .ge 22, 3), (24, .aload_n 0, 1), (25, .getfield 11, 3), (28, .iload_n 1, 1), (29, .new 9, 3), (32, .dup, 1), (33, .invokespecial 17, 3), (36, .aastore, 1), (37, .iinc 1 1, 3), (40, .goto (-25), 3), (43, .return_, 1)]
theorem dX1_init : ∀ q ∈ tbX1_init, decode prog_3_method_1_code q.1 = .ok q.2 := by decide +kernel
set_option maxRecDepth 50000 in
set_option maxHeartbeats 4000000 in
theorem cX1_init (l : Launch) (w : WX) (t : Nat) (hb : Bel w t) (hz : wz w ≤ t) (hL : Lay w) (M : Mem) : CtI l w t 1 yX1_init prog_3_method_1_code 2 2 40 37 234 [.ref t] (put M t 38 UZ_X1_init) G_X1_init (put M t 38 T_X1_init) := by
  refine ctI_of (by decide) rfl (Nat.le_of_ble_eq_true rfl) (fun x hl hsz hR hin hx0 hb9 => ?_)
  subst hl
  have hd : ∀ i, DAt (xc x).code (tbX1_init[i]?) := fun i => by rw [hb9]; exact dat_of dX1_init i
  show C (xat x 0 0) (wg w t gX1_init_0) (Qi x w t G_X1_init (put M t 38 T_X1_init) 37 234) 2 0 [(0, .ref t)] [] (put M t 38 UZ_X1_init) (some ())
  refine z_as (U' := (wr vX1_init_0 (qX1_init_0 t))) rfl ?_
  have zr0 : Zr UZ_X1_init (wr vX1_init_0 (qX1_init_0 t)) 1 := Zr.z0 rfl rfl rfl rfl
  have rn0 : Rny (wr vX1_init_0 (qX1_init_0 t)) [0, 1] := Rny.z9 rfl
  refine r_aload_n (pc' := 1) hx0 (hd 0) rfl 0 rfl rfl ?_
  refine q_objI hx0 (hd 1) mlI_1_3 ob_in ob_cd ⟨Nat.le_of_ble_eq_true rfl, Nat.le_of_ble_eq_true rfl⟩ (Nat.le_of_ble_eq_true rfl) ?_
  refine r_pcA (pc' := 4) rfl ?_
  refine r_aload_n (pc' := 5) hx0 (hd 2) rfl 0 rfl rfl ?_
  refine r_bipush (pc' := 7) (v := 9) hx0 (hd 3) (by decide) rfl ?_
  refine q_anew (G := gX1_init_0) (K := 0) (N := 0) (kd := 63) (c := 3) (n := 9) (o := 1) rfl hb hz (by decide) (by rw [hsz]; exact (by omega : t + 1 + 0 = t + 1)) hx0 (hd 4) cl_1_9 ao_Table rfl (by decide) (by decide) (by decide) (by rw [hR.1]; decide) (by rw [hR.2]; decide) (ce_refs (c := 3) (G := gX1_init_0) (S := 38) (by decide) (zr0 1 (by decide)).2.2.1) (nr_put (by decide) (zr0 1 (by decide)).2.2.1) ?_
  have hx1 : Ok _ 2 none _ _ (wg w t gX1_init_1) (xat x 1 9) := ok_grow (w' := wg w t gX1_init_1) hx0 rfl rfl rfl rfl (lay_wg hL hb (by decide +kernel)) (by rw [hR.1]; decide) (by rw [hR.2]; decide)
  refine z_putR (pc' := 13) (o := 1) (by decide) hx1 (hd 5) hin fw_1_11 (wat_new (G := gX1_init_1) (o := 0) (kd := 40 + 1) (n := 0) (by decide +kernel)) rfl (by decide) rfl rfl rfl ?_
  refine z_as (U' := (wr vX1_init_1 (qX1_init_1 t))) ((wrR ..).trans rfl) ?_
  have zr1 : Zr UZ_X1_init (wr vX1_init_1 (qX1_init_1 t)) 2 := Zr.cR zr0 (by decide)
  have rn1 : Rny (wr vX1_init_1 (qX1_init_1 t)) [0, 1] := Rny.cR rn0 (by decide)
  refine r_iconst (pc' := 14) (v := 0) hx1 (hd 6) (by decide) rfl ?_
  refine r_istore_n (pc' := 15) (L' := [(1, .int 0), (0, .ref t)]) hx1 (hd 7) rfl (by decide) rfl rfl ?_
  refine r_iload_n (pc' := 16) hx1 (hd 8) rfl 0 rfl rfl ?_
  refine r_aload_n (pc' := 17) hx1 (hd 9) rfl 1 rfl rfl ?_
  refine z_getR (pc' := 20) (o := 1) (by decide) hx1 (hd 10) flI_1_11 (wat_new (G := gX1_init_1) (o := 0) (kd := 40 + 1) (n := 0) (by decide +kernel)) rfl rfl (by decide) rfl ?_
  refine z_alenR (pc' := 21) (c := 3) (v := 9) hx1 (hd 11) (wat_new (G := gX1_init_1) (o := 1) (kd := 60 + 3) (n := 9) (by decide +kernel)) rfl (by decide) rfl ?_
  refine z_geF (pc' := 24) 43 hx1 (hd 12) (by decide) (by decide) rfl ?_
  refine r_aload_n (pc' := 25) hx1 (hd 13) rfl 1 rfl rfl ?_
  refine z_getR (pc' := 28) (o := 1) (by decide) hx1 (hd 14) flI_1_11 (wat_new (G := gX1_init_1) (o := 0) (kd := 40 + 1) (n := 0) (by decide +kernel)) rfl rfl (by decide) rfl ?_
  refine r_iload_n (pc' := 29) hx1 (hd 15) rfl 0 rfl rfl ?_
  refine q_newO (G := gX1_init_1) (K := 1) (N := 9) (ci := 8) (o := 2) tyX8 rfl hb hz (by decide) (by rw [hsz]; exact (by omega : t + 1 + 1 = t + 2)) hx1 (hd 16) rfl inX8 tyX8_ok cl_1_9 ins_8 ini_8 (by decide) (by rw [hR.1]; decide) (by rw [hR.2]; decide) ((put_at (by decide)).1.trans (zr1 2 (by decide)).1) ((put_at (by decide)).2.1.trans (zr1 2 (by decide)).2.1) ((put_at (by decide)).2.2.1.trans (zr1 2 (by decide)).2.2.1) dvX8 ?_
  have hx2 : Ok _ 2 none _ _ (wg w t gX1_init_2) (xat x 2 22) := ok_grow (w' := wg w t gX1_init_2) hx1 rfl rfl rfl rfl (lay_wg hL hb (by decide +kernel)) (by rw [hR.1]; decide) (by rw [hR.2]; decide)
  refine r_dup (pc' := 33) hx2 (hd 17) rfl rfl ?_
  refine z_pre (G0 := gX1_init_1) (o := 2) (s := 4) (U0 := UZ_X8_init) hb rfl (by decide) ((zr1 2 (by decide)).1.trans rfl) ((zr1 2 (by decide)).2.1.trans rfl) ((zr1 2 (by decide)).2.2.1.trans rfl) ((zr1 2 (by decide)).2.2.2.trans rfl) ?_
  refine q_callIN (G0 := gX1_init_1) (K := 2) (N := 22) (ci := 8) (o := 2) (As := []) (rest := [.ref (t + 2), .int 0, .ref (t + 1)]) rfl hb (by rw [hsz]; exact (by omega : t + 1 + 2 = t + 3)) hx2 (hd 18) mdI_X8_init rfl miI_X8_init mlI_1_17 (cX8_init (xl x) (wg w t gX1_init_1) (t + 2) (show Bel (wg w t gX1_init_1) (t + 2) from bel_wg hb) (Nat.le_trans hz (Nat.le_add_right _ _)) (lay_wg hL hb (by decide +kernel)) _) ⟨Nat.le_of_ble_eq_true rfl, Nat.le_of_ble_eq_true rfl⟩ (by rw [hR.1]; decide) (by rw [hR.2]; decide) rfl rfl (Nat.le_of_ble_eq_true rfl) ?_
  refine r_pcA (pc' := 36) rfl ?_
  refine z_post (by decide) ?_
  refine z_as (U' := (wr vX1_init_2 (qX1_init_2 t))) ((wrP ..).trans rfl) ?_
  have zr2 : Zr UZ_X1_init (wr vX1_init_2 (qX1_init_2 t)) 6 := Zr.cP zr1 (by decide) (by decide)
  have rn2 : Rny (wr vX1_init_2 (qX1_init_2 t)) [0, 1] := Rny.cP rn1 Rny.c
  have hx3 : Ok _ 2 none _ _ (wg w t gX1_init_3) (xat x 5 34) := ok_grow (w' := wg w t gX1_init_3) hx2 rfl rfl rfl rfl (lay_wg hL hb (by decide +kernel)) (by rw [hR.1]; decide) (by rw [hR.2]; decide)
  refine z_aast (pc' := 37) (k := 0) (c := 3) (ci := 8) (by decide) hx3 (hd 19) (wat_new (G := gX1_init_3) (o := 1) (kd := 60 + 3) (n := 9) (by decide +kernel)) (by decide) (by decide) (wat_new (G := gX1_init_3) (o := 2) (kd := 8) (n := 0) (by decide +kernel)) (by decide) rfl rfl rfl ?_
  refine z_as (U' := (wr vX1_init_3 (qX1_init_3 t))) ((wrR ..).trans rfl) ?_
  have zr3 : Zr UZ_X1_init (wr vX1_init_3 (qX1_init_3 t)) 6 := Zr.cR zr2 (by decide)
  have rn3 : Rny (wr vX1_init_3 (qX1_init_3 t)) [0, 1] := Rny.cR rn2 (by decide)
  refine z_iinc (pc' := 40) (v := 1) (L' := [(1, .int 1), (0, .ref t)]) (j := 0) hx3 (hd 20) rfl (by decide) (by decide) rfl rfl ?_
  refine r_goto (tgt := 15) hx3 (hd 21) (by decide) ?_
  refine r_iload_n (pc' := 16) hx3 (hd 8) rfl 0 rfl rfl ?_
  refine r_aload_n (pc' := 17) hx3 (hd 9) rfl 1 rfl rfl ?_
  refine z_getR (pc' := 20) (o := 1) (by decide) hx3 (hd 10) flI_1_11 (wat_new (G := gX1_init_3) (o := 0) (kd := 40 + 1) (n := 0) (by decide +kernel)) rfl rfl (by decide) rfl ?_
  refine z_alenR (pc' := 21) (c := 3) (v := 9) hx3 (hd 11) (wat_new (G := gX1_init_3) (o := 1) (kd := 60 + 3) (n := 9) (by decide +kernel)) rfl (by decide) rfl ?_
  refine z_geF (pc' := 24) 43 hx3 (hd 12) (by decide) (by decide) rfl ?_
  refine r_aload_n (pc' := 25) hx3 (hd 13) rfl 1 rfl rfl ?_
  refine z_getR (pc' := 28) (o := 1) (by decide) hx3 (hd 14) flI_1_11 (wat_new (G := gX1_init_3) (o := 0) (kd := 40 + 1) (n := 0) (by decide +kernel)) rfl rfl (by decide) rfl ?_
  refine r_iload_n (pc' := 29) hx3 (hd 15) rfl 0 rfl rfl ?_
  refine q_newO (G := gX1_init_3) (K := 5) (N := 34) (ci := 8) (o := 6) tyX8 rfl hb hz (by decide) (by rw [hsz]; exact (by omega : t + 1 + 5 = t + 6)) hx3 (hd 16) rfl inX8 tyX8_ok cl_1_9 ins_8 ini_8 (by decide) (by rw [hR.1]; decide) (by rw [hR.2]; decide) ((put_at (by decide)).1.trans (zr3 6 (by decide)).1) ((put_at (by decide)).2.1.trans (zr3 6 (by decide)).2.1) ((put_at (by decide)).2.2.1.trans (zr3 6 (by decide)).2.2.1) dvX8 ?_
  have hx4 : Ok _ 2 none _ _ (wg w t gX1_init_4) (xat x 6 47) := ok_grow (w' := wg w t gX1_init_4) hx3 rfl rfl rfl rfl (lay_wg hL hb (by decide +kernel)) (by rw [hR.1]; decide) (by rw [hR.2]; decide)
  refine r_dup (pc' := 33) hx4 (hd 17) rfl rfl ?_
  refine z_pre (G0 := gX1_init_3) (o := 6) (s := 4) (U0 := UZ_X8_init) hb rfl (by decide) ((zr3 6 (by decide)).1.trans rfl) ((zr3 6 (by decide)).2.1.trans rfl) ((zr3 6 (by decide)).2.2.1.trans rfl) ((zr3 6 (by decide)).2.2.2.trans rfl) ?_
  refine q_callIN (G0 := gX1_init_3) (K := 6) (N := 47) (ci := 8) (o := 6) (As := []) (rest := [.ref (t + 6), .int 1, .ref (t + 1)]) rfl hb (by rw [hsz]; exact (by omega : t + 1 + 6 = t + 7)) hx4 (hd 18) mdI_X8_init rfl miI_X8_init mlI_1_17 (cX8_init (xl x) (wg w t gX1_init_3) (t + 6) (show Bel (wg w t gX1_init_3) (t + 6) from bel_wg hb) (Nat.le_trans hz (Nat.le_add_right _ _)) (lay_wg hL hb (by decide +kernel)) _) ⟨Nat.le_of_ble_eq_true rfl, Nat.le_of_ble_eq_true rfl⟩ (by rw [hR.1]; decide) (by rw [hR.2]; decide) rfl rfl (Nat.le_of_ble_eq_true rfl) ?_
  refine r_pcA (pc' := 36) rfl ?_
  refine z_post (by decide) ?_
  refine z_as (U' := (wr vX1_init_4 (qX1_init_4 t))) ((wrP ..).trans rfl) ?_
  have zr4 : Zr UZ_X1_init (wr vX1_init_4 (qX1_init_4 t)) 10 := Zr.cP zr3 (by decide) (by decide)
  have rn4 : Rny (wr vX1_init_4 (qX1_init_4 t)) [0, 1] := Rny.cP rn3 Rny.c
  have hx5 : Ok _ 2 none _ _ (wg w t gX1_init_5) (xat x 9 59) := ok_grow (w' := wg w t gX1_init_5) hx4 rfl rfl rfl rfl (lay_wg hL hb (by decide +kernel)) (by rw [hR.1]; decide) (by rw [hR.2]; decide)
  refine z_aast (pc' := 37) (k := 1) (c := 3) (ci := 8) (by decide) hx5 (hd 19) (wat_new (G := gX1_init_5) (o := 1) (kd := 60 + 3) (n := 9) (by decide +kernel)) (by decide) (by decide) (wat_new (G := gX1_init_5) (o := 6) (kd := 8) (n := 0) (by decide +kernel)) (by decide) rfl rfl rfl ?_
  refine z_as (U' := (wr vX1_init_5 (qX1_init_5 t))) ((wrR ..).trans rfl) ?_
  have zr5 : Zr UZ_X1_init (wr vX1_init_5 (qX1_init_5 t)) 10 := Zr.cR zr4 (by decide)
  have rn5 : Rny (wr vX1_init_5 (qX1_init_5 t)) [0, 1] := Rny.cR rn4 (by decide)
  refine z_iinc (pc' := 40) (v := 2) (L' := [(1, .int 2), (0, .ref t)]) (j := 0) hx5 (hd 20) rfl (by decide) (by decide) rfl rfl ?_
  refine r_goto (tgt := 15) hx5 (hd 21) (by decide) ?_
  refine r_iload_n (pc' := 16) hx5 (hd 8) rfl 0 rfl rfl ?_
  refine r_aload_n (pc' := 17) hx5 (hd 9) rfl 1 rfl rfl ?_
  refine z_getR (pc' := 20) (o := 1) (by decide) hx5 (hd 10) flI_1_11 (wat_new (G := gX1_init_5) (o := 0) (kd := 40 + 1) (n := 0) (by decide +kernel)) rfl rfl (by decide) rfl ?_
  refine z_alenR (pc' := 21) (c := 3) (v := 9) hx5 (hd 11) (wat_new (G := gX1_init_5) (o := 1) (kd := 60 + 3) (n := 9) (by decide +kernel)) rfl (by decide) rfl ?_
  refine z_geF (pc' := 24) 43 hx5 (hd 12) (by decide) (by decide) rfl ?_
  refine r_aload_n (pc' := 25) hx5 (hd 13) rfl 1 rfl rfl ?_
  refine z_getR (pc' := 28) (o := 1) (by decide) hx5 (hd 14) flI_1_11 (wat_new (G := gX1_init_5) (o := 0) (kd := 40 + 1) (n := 0) (by decide +kernel)) rfl rfl (by decide) rfl ?_
  refine r_iload_n (pc' := 29) hx5 (hd 15) rfl 0 rfl rfl ?_
  refine q_newO (G := gX1_init_5) (K := 9) (N := 59) (ci := 8) (o := 10) tyX8 rfl hb hz (by decide) (by rw [hsz]; exact (by omega : t + 1 + 9 = t + 10)) hx5 (hd 16) rfl inX8 tyX8_ok cl_1_9 ins_8 ini_8 (by decide) (by rw [hR.1]; decide) (by rw [hR.2]; decide) ((put_at (by decide)).1.trans (zr5 10 (by decide)).1) ((put_at (by decide)).2.1.trans (zr5 10 (by decide)).2.1) ((put_at (by decide)).2.2.1.trans (zr5 10 (by decide)).2.2.1) dvX8 ?_
  have hx6 : Ok _ 2 none _ _ (wg w t gX1_init_6) (xat x 10 72) := ok_grow (w' := wg w t gX1_init_6) hx5 rfl rfl rfl rfl (lay_wg hL hb (by decide +kernel)) (by rw [hR.1]; decide) (by rw [hR.2]; decide)
  refine r_dup (pc' := 33) hx6 (hd 17) rfl rfl ?_
  refine z_pre (G0 := gX1_init_5) (o := 10) (s := 4) (U0 := UZ_X8_init) hb rfl (by decide) ((zr5 10 (by decide)).1.trans rfl) ((zr5 10 (by decide)).2.1.trans rfl) ((zr5 10 (by decide)).2.2.1.trans rfl) ((zr5 10 (by decide)).2.2.2.trans rfl) ?_
  refine q_callIN (G0 := gX1_init_5) (K := 10) (N := 72) (ci := 8) (o := 10) (As := []) (rest := [.ref (t + 10), .int 2, .ref (t + 1)]) rfl hb (by rw [hsz]; exact (by omega : t + 1 + 10 = t + 11)) hx6 (hd 18) mdI_X8_init rfl miI_X8_init mlI_1_17 (cX8_init (xl x) (wg w t gX1_init_5) (t + 10) (show Bel (wg w t gX1_init_5) (t + 10) from bel_wg hb) (Nat.le_trans hz (Nat.le_add_right _ _)) (lay_wg hL hb (by decide +kernel)) _) ⟨Nat.le_of_ble_eq_true rfl, Nat.le_of_ble_eq_true rfl⟩ (by rw [hR.1]; decide) (by rw [hR.2]; decide) rfl rfl (Nat.le_of_ble_eq_true rfl) ?_
  refine r_pcA (pc' := 36) rfl ?_
  refine z_post (by decide) ?_
  refine z_as (U' := (wr vX1_init_6 (qX1_init_6 t))) ((wrP ..).trans rfl) ?_
  have zr6 : Zr UZ_X1_init (wr vX1_init_6 (qX1_init_6 t)) 14 := Zr.cP zr5 (by decide) (by decide)
  have rn6 : Rny (wr vX1_init_6 (qX1_init_6 t)) [0, 1] := Rny.cP rn5 Rny.c
  have hx7 : Ok _ 2 none _ _ (wg w t gX1_init_7) (xat x 13 84) := ok_grow (w' := wg w t gX1_init_7) hx6 rfl rfl rfl rfl (lay_wg hL hb (by decide +kernel)) (by rw [hR.1]; decide) (by rw [hR.2]; decide)
  refine z_aast (pc' := 37) (k := 2) (c := 3) (ci := 8) (by decide) hx7 (hd 19) (wat_new (G := gX1_init_7) (o := 1) (kd := 60 + 3) (n := 9) (by decide +kernel)) (by decide) (by decide) (wat_new (G := gX1_init_7) (o := 10) (kd := 8) (n := 0) (by decide +kernel)) (by decide) rfl rfl rfl ?_
  refine z_as (U' := (wr vX1_init_7 (qX1_init_7 t))) ((wrR ..).trans rfl) ?_
  have zr7 : Zr UZ_X1_init (wr vX1_init_7 (qX1_init_7 t)) 14 := Zr.cR zr6 (by decide)
  have rn7 : Rny (wr vX1_init_7 (qX1_init_7 t)) [0, 1] := Rny.cR rn6 (by decide)
  refine z_iinc (pc' := 40) (v := 3) (L' := [(1, .int 3), (0, .ref t)]) (j := 0) hx7 (hd 20) rfl (by decide) (by decide) rfl rfl ?_
  refine r_goto (tgt := 15) hx7 (hd 21) (by decide) ?_
  refine r_iload_n (pc' := 16) hx7 (hd 8) rfl 0 rfl rfl ?_
  refine r_aload_n (pc' := 17) hx7 (hd 9) rfl 1 rfl rfl ?_
  refine z_getR (pc' := 20) (o := 1) (by decide) hx7 (hd 10) flI_1_11 (wat_new (G := gX1_init_7) (o := 0) (kd := 40 + 1) (n := 0) (by decide +kernel)) rfl rfl (by decide) rfl ?_
  refine z_alenR (pc' := 21) (c := 3) (v := 9) hx7 (hd 11) (wat_new (G := gX1_init_7) (o := 1) (kd := 60 + 3) (n := 9) (by decide +kernel)) rfl (by decide) rfl ?_
  refine z_geF (pc' := 24) 43 hx7 (hd 12) (by decide) (by decide) rfl ?_
  refine r_aload_n (pc' := 25) hx7 (hd 13) rfl 1 rfl rfl ?_
  refine z_getR (pc' := 28) (o := 1) (by decide) hx7 (hd 14) flI_1_11 (wat_new (G := gX1_init_7) (o := 0) (kd := 40 + 1) (n := 0) (by decide +kernel)) rfl rfl (by decide) rfl ?_
  refine r_iload_n (pc' := 29) hx7 (hd 15) rfl 0 rfl rfl ?_
  refine q_newO (G := gX1_init_7) (K := 13) (N := 84) (ci := 8) (o := 14) tyX8 rfl hb hz (by decide) (by rw [hsz]; exact (by omega : t + 1 + 13 = t + 14)) hx7 (hd 16) rfl inX8 tyX8_ok cl_1_9 ins_8 ini_8 (by decide) (by rw [hR.1]; decide) (by rw [hR.2]; decide) ((put_at (by decide)).1.trans (zr7 14 (by decide)).1) ((put_at (by decide)).2.1.trans (zr7 14 (by decide)).2.1) ((put_at (by decide)).2.2.1.trans (zr7 14 (by decide)).2.2.1) dvX8 ?_
  have hx8 : Ok _ 2 none _ _ (wg w t gX1_init_8) (xat x 14 97) := ok_grow (w' := wg w t gX1_init_8) hx7 rfl rfl rfl rfl (lay_wg hL hb (by decide +kernel)) (by rw [hR.1]; decide) (by rw [hR.2]; decide)
  refine r_dup (pc' := 33) hx8 (hd 17) rfl rfl ?_
  refine z_pre (G0 := gX1_init_7) (o := 14) (s := 4) (U0 := UZ_X8_init) hb rfl (by decide) ((zr7 14 (by decide)).1.trans rfl) ((zr7 14 (by decide)).2.1.trans rfl) ((zr7 14 (by decide)).2.2.1.trans rfl) ((zr7 14 (by decide)).2.2.2.trans rfl) ?_
  refine q_callIN (G0 := gX1_init_7) (K := 14) (N := 97) (ci := 8) (o := 14) (As := []) (rest := [.ref (t + 14), .int 3, .ref (t + 1)]) rfl hb (by rw [hsz]; exact (by omega : t + 1 + 14 = t + 15)) hx8 (hd 18) mdI_X8_init rfl miI_X8_init mlI_1_17 (cX8_init (xl x) (wg w t gX1_init_7) (t + 14) (show Bel (wg w t gX1_init_7) (t + 14) from bel_wg hb) (Nat.le_trans hz (Nat.le_add_right _ _)) (lay_wg hL hb (by decide +kernel)) _) ⟨Nat.le_of_ble_eq_true rfl, Nat.le_of_ble_eq_true rfl⟩ (by rw [hR.1]; decide) (by rw [hR.2]; decide) rfl rfl (Nat.le_of_ble_eq_true rfl) ?_
  refine r_pcA (pc' := 36) rfl ?_
  refine z_post (by decide) ?_
  refine z_as (U' := (wr vX1_init_8 (qX1_init_8 t))) ((wrP ..).trans rfl) ?_
  have zr8 : Zr UZ_X1_init (wr vX1_init_8 (qX1_init_8 t)) 18 := Zr.cP zr7 (by decide) (by decide)
  have rn8 : Rny (wr vX1_init_8 (qX1_init_8 t)) [0, 1] := Rny.cP rn7 Rny.c
  have hx9 : Ok _ 2 none _ _ (wg w t gX1_init_9) (xat x 17 109) := ok_grow (w' := wg w t gX1_init_9) hx8 rfl rfl rfl rfl (lay_wg hL hb (by decide +kernel)) (by rw [hR.1]; decide) (by rw [hR.2]; decide)
  refine z_aast (pc' := 37) (k := 3) (c := 3) (ci := 8) (by decide) hx9 (hd 19) (wat_new (G := gX1_init_9) (o := 1) (kd := 60 + 3) (n := 9) (by decide +kernel)) (by decide) (by decide) (wat_new (G := gX1_init_9) (o := 14) (kd := 8) (n := 0) (by decide +kernel)) (by decide) rfl rfl rfl ?_
  refine z_as (U' := (wr vX1_init_9 (qX1_init_9 t))) ((wrR ..).trans rfl) ?_
  have zr9 : Zr UZ_X1_init (wr vX1_init_9 (qX1_init_9 t)) 18 := Zr.cR zr8 (by decide)
  have rn9 : Rny (wr vX1_init_9 (qX1_init_9 t)) [0, 1] := Rny.cR rn8 (by decide)
  refine z_iinc (pc' := 40) (v := 4) (L' := [(1, .int 4), (0, .ref t)]) (j := 0) hx9 (hd 20) rfl (by decide) (by decide) rfl rfl ?_
  refine r_goto (tgt := 15) hx9 (hd 21) (by decide) ?_
  refine r_iload_n (pc' := 16) hx9 (hd 8) rfl 0 rfl rfl ?_
  refine r_aload_n (pc' := 17) hx9 (hd 9) rfl 1 rfl rfl ?_
  refine z_getR (pc' := 20) (o := 1) (by decide) hx9 (hd 10) flI_1_11 (wat_new (G := gX1_init_9) (o := 0) (kd := 40 + 1) (n := 0) (by decide +kernel)) rfl rfl (by decide) rfl ?_
  refine z_alenR (pc' := 21) (c := 3) (v := 9) hx9 (hd 11) (wat_new (G := gX1_init_9) (o := 1) (kd := 60 + 3) (n := 9) (by decide +kernel)) rfl (by decide) rfl ?_
  refine z_geF (pc' := 24) 43 hx9 (hd 12) (by decide) (by decide) rfl ?_
  refine r_aload_n (pc' := 25) hx9 (hd 13) rfl 1 rfl rfl ?_
  refine z_getR (pc' := 28) (o := 1) (by decide) hx9 (hd 14) flI_1_11 (wat_new (G := gX1_init_9) (o := 0) (kd := 40 + 1) (n := 0) (by decide +kernel)) rfl rfl (by decide) rfl ?_
  refine r_iload_n (pc' := 29) hx9 (hd 15) rfl 0 rfl rfl ?_
  refine q_newO (G := gX1_init_9) (K := 17) (N := 109) (ci := 8) (o := 18) tyX8 rfl hb hz (by decide) (by rw [hsz]; exact (by omega : t + 1 + 17 = t + 18)) hx9 (hd 16) rfl inX8 tyX8_ok cl_1_9 ins_8 ini_8 (by decide) (by rw [hR.1]; decide) (by rw [hR.2]; decide) ((put_at (by decide)).1.trans (zr9 18 (by decide)).1) ((put_at (by decide)).2.1.trans (zr9 18 (by decide)).2.1) ((put_at (by decide)).2.2.1.trans (zr9 18 (by decide)).2.2.1) dvX8 ?_
  have hx10 : Ok _ 2 none _ _ (wg w t gX1_init_10) (xat x 18 122) := ok_grow (w' := wg w t gX1_init_10) hx9 rfl rfl rfl rfl (lay_wg hL hb (by decide +kernel)) (by rw [hR.1]; decide) (by rw [hR.2]; decide)
  refine r_dup (pc' := 33) hx10 (hd 17) rfl rfl ?_
  refine z_pre (G0 := gX1_init_9) (o := 18) (s := 4) (U0 := UZ_X8_init) hb rfl (by decide) ((zr9 18 (by decide)).1.trans rfl) ((zr9 18 (by decide)).2.1.trans rfl) ((zr9 18 (by decide)).2.2.1.trans rfl) ((zr9 18 (by decide)).2.2.2.trans rfl) ?_
  refine q_callIN (G0 := gX1_init_9) (K := 18) (N := 122) (ci := 8) (o := 18) (As := []) (rest := [.ref (t + 18), .int 4, .ref (t + 1)]) rfl hb (by rw [hsz]; exact (by omega : t + 1 + 18 = t + 19)) hx10 (hd 18) mdI_X8_init rfl miI_X8_init mlI_1_17 (cX8_init (xl x) (wg w t gX1_init_9) (t + 18) (show Bel (wg w t gX1_init_9) (t + 18) from bel_wg hb) (Nat.le_trans hz (Nat.le_add_right _ _)) (lay_wg hL hb (by decide +kernel)) _) ⟨Nat.le_of_ble_eq_true rfl, Nat.le_of_ble_eq_true rfl⟩ (by rw [hR.1]; decide) (by rw [hR.2]; decide) rfl rfl (Nat.le_of_ble_eq_true rfl) ?_
  refine r_pcA (pc' := 36) rfl ?_
  refine z_post (by decide) ?_
  refine z_as (U' := (wr vX1_init_10 (qX1_init_10 t))) ((wrP ..).trans rfl) ?_
  have zr10 : Zr UZ_X1_init (wr vX1_init_10 (qX1_init_10 t)) 22 := Zr.cP zr9 (by decide) (by decide)
  have rn10 : Rny (wr vX1_init_10 (qX1_init_10 t)) [0, 1] := Rny.cP rn9 Rny.c
  have hx11 : Ok _ 2 none _ _ (wg w t gX1_init_11) (xat x 21 134) := ok_grow (w' := wg w t gX1_init_11) hx10 rfl rfl rfl rfl (lay_wg hL hb (by decide +kernel)) (by rw [hR.1]; decide) (by rw [hR.2]; decide)
  refine z_aast (pc' := 37) (k := 4) (c := 3) (ci := 8) (by decide) hx11 (hd 19) (wat_new (G := gX1_init_11) (o := 1) (kd := 60 + 3) (n := 9) (by decide +kernel)) (by decide) (by decide) (wat_new (G := gX1_init_11) (o := 18) (kd := 8) (n := 0) (by decide +kernel)) (by decide) rfl rfl rfl ?_
  refine z_as (U' := (wr vX1_init_11 (qX1_init_11 t))) ((wrR ..).trans rfl) ?_
  have zr11 : Zr UZ_X1_init (wr vX1_init_11 (qX1_init_11 t)) 22 := Zr.cR zr10 (by decide)
  have rn11 : Rny (wr vX1_init_11 (qX1_init_11 t)) [0, 1] := Rny.cR rn10 (by decide)
  refine z_iinc (pc' := 40) (v := 5) (L' := [(1, .int 5), (0, .ref t)]) (j := 0) hx11 (hd 20) rfl (by decide) (by decide) rfl rfl ?_
  refine r_goto (tgt := 15) hx11 (hd 21) (by decide) ?_
  refine r_iload_n (pc' := 16) hx11 (hd 8) rfl 0 rfl rfl ?_
  refine r_aload_n (pc' := 17) hx11 (hd 9) rfl 1 rfl rfl ?_
  refine z_getR (pc' := 20) (o := 1) (by decide) hx11 (hd 10) flI_1_11 (wat_new (G := gX1_init_11) (o := 0) (kd := 40 + 1) (n := 0) (by decide +kernel)) rfl rfl (by decide) rfl ?_
  refine z_alenR (pc' := 21) (c := 3) (v := 9) hx11 (hd 11) (wat_new (G := gX1_init_11) (o := 1) (kd := 60 + 3) (n := 9) (by decide +kernel)) rfl (by decide) rfl ?_
  refine z_geF (pc' := 24) 43 hx11 (hd 12) (by decide) (by decide) rfl ?_
  refine r_aload_n (pc' := 25) hx11 (hd 13) rfl 1 rfl rfl ?_
  refine z_getR (pc' := 28) (o := 1) (by decide) hx11 (hd 14) flI_1_11 (wat_new (G := gX1_init_11) (o := 0) (kd := 40 + 1) (n := 0) (by decide +kernel)) rfl rfl (by decide) rfl ?_
  refine r_iload_n (pc' := 29) hx11 (hd 15) rfl 0 rfl rfl ?_
  refine q_newO (G := gX1_init_11) (K := 21) (N := 134) (ci := 8) (o := 22) tyX8 rfl hb hz (by decide) (by rw [hsz]; exact (by omega : t + 1 + 21 = t + 22)) hx11 (hd 16) rfl inX8 tyX8_ok cl_1_9 ins_8 ini_8 (by decide) (by rw [hR.1]; decide) (by rw [hR.2]; decide) ((put_at (by decide)).1.trans (zr11 22 (by decide)).1) ((put_at (by decide)).2.1.trans (zr11 22 (by decide)).2.1) ((put_at (by decide)).2.2.1.trans (zr11 22 (by decide)).2.2.1) dvX8 ?_
  have hx12 : Ok _ 2 none _ _ (wg w t gX1_init_12) (xat x 22 147) := ok_grow (w' := wg w t gX1_init_12) hx11 rfl rfl rfl rfl (lay_wg hL hb (by decide +kernel)) (by rw [hR.1]; decide) (by rw [hR.2]; decide)
  refine r_dup (pc' := 33) hx12 (hd 17) rfl rfl ?_
  refine z_pre (G0 := gX1_init_11) (o := 22) (s := 4) (U0 := UZ_X8_init) hb rfl (by decide) ((zr11 22 (by decide)).1.trans rfl) ((zr11 22 (by decide)).2.1.trans rfl) ((zr11 22 (by decide)).2.2.1.trans rfl) ((zr11 22 (by decide)).2.2.2.trans rfl) ?_
  refine q_callIN (G0 := gX1_init_11) (K := 22) (N := 147) (ci := 8) (o := 22) (As := []) (rest := [.ref (t + 22), .int 5, .ref (t + 1)]) rfl hb (by rw [hsz]; exact (by omega : t + 1 + 22 = t + 23)) hx12 (hd 18) mdI_X8_init rfl miI_X8_init mlI_1_17 (cX8_init (xl x) (wg w t gX1_init_11) (t + 22) (show Bel (wg w t gX1_init_11) (t + 22) from bel_wg hb) (Nat.le_trans hz (Nat.le_add_right _ _)) (lay_wg hL hb (by decide +kernel)) _) ⟨Nat.le_of_ble_eq_true rfl, Nat.le_of_ble_eq_true rfl⟩ (by rw [hR.1]; decide) (by rw [hR.2]; decide) rfl rfl (Nat.le_of_ble_eq_true rfl) ?_
  refine r_pcA (pc' := 36) rfl ?_
  refine z_post (by decide) ?_
  refine z_as (U' := (wr vX1_init_12 (qX1_init_12 t))) ((wrP ..).trans rfl) ?_
  have zr12 : Zr UZ_X1_init (wr vX1_init_12 (qX1_init_12 t)) 26 := Zr.cP zr11 (by decide) (by decide)
  have rn12 : Rny (wr vX1_init_12 (qX1_init_12 t)) [0, 1] := Rny.cP rn11 Rny.c
  have hx13 : Ok _ 2 none _ _ (wg w t gX1_init_13) (xat x 25 159) := ok_grow (w' := wg w t gX1_init_13) hx12 rfl rfl rfl rfl (lay_wg hL hb (by decide +kernel)) (by rw [hR.1]; decide) (by rw [hR.2]; decide)
  refine z_aast (pc' := 37) (k := 5) (c := 3) (ci := 8) (by decide) hx13 (hd 19) (wat_new (G := gX1_init_13) (o := 1) (kd := 60 + 3) (n := 9) (by decide +kernel)) (by decide) (by decide) (wat_new (G := gX1_init_13) (o := 22) (kd := 8) (n := 0) (by decide +kernel)) (by decide) rfl rfl rfl ?_
  refine z_as (U' := (wr vX1_init_13 (qX1_init_13 t))) ((wrR ..).trans rfl) ?_
  have zr13 : Zr UZ_X1_init (wr vX1_init_13 (qX1_init_13 t)) 26 := Zr.cR zr12 (by decide)
  have rn13 : Rny (wr vX1_init_13 (qX1_init_13 t)) [0, 1] := Rny.cR rn12 (by decide)
  refine z_iinc (pc' := 40) (v := 6) (L' := [(1, .int 6), (0, .ref t)]) (j := 0) hx13 (hd 20) rfl (by decide) (by decide) rfl rfl ?_
  refine r_goto (tgt := 15) hx13 (hd 21) (by decide) ?_
  refine r_iload_n (pc' := 16) hx13 (hd 8) rfl 0 rfl rfl ?_
  refine r_aload_n (pc' := 17) hx13 (hd 9) rfl 1 rfl rfl ?_
  refine z_getR (pc' := 20) (o := 1) (by decide) hx13 (hd 10) flI_1_11 (wat_new (G := gX1_init_13) (o := 0) (kd := 40 + 1) (n := 0) (by decide +kernel)) rfl rfl (by decide) rfl ?_
  refine z_alenR (pc' := 21) (c := 3) (v := 9) hx13 (hd 11) (wat_new (G := gX1_init_13) (o := 1) (kd := 60 + 3) (n := 9) (by decide +kernel)) rfl (by decide) rfl ?_
  refine z_geF (pc' := 24) 43 hx13 (hd 12) (by decide) (by decide) rfl ?_
  refine r_aload_n (pc' := 25) hx13 (hd 13) rfl 1 rfl rfl ?_
  refine z_getR (pc' := 28) (o := 1) (by decide) hx13 (hd 14) flI_1_11 (wat_new (G := gX1_init_13) (o := 0) (kd := 40 + 1) (n := 0) (by decide +kernel)) rfl rfl (by decide) rfl ?_
  refine r_iload_n (pc' := 29) hx13 (hd 15) rfl 0 rfl rfl ?_
  refine q_newO (G := gX1_init_13) (K := 25) (N := 159) (ci := 8) (o := 26) tyX8 rfl hb hz (by decide) (by rw [hsz]; exact (by omega : t + 1 + 25 = t + 26)) hx13 (hd 16) rfl inX8 tyX8_ok cl_1_9 ins_8 ini_8 (by decide) (by rw [hR.1]; decide) (by rw [hR.2]; decide) ((put_at (by decide)).1.trans (zr13 26 (by decide)).1) ((put_at (by decide)).2.1.trans (zr13 26 (by decide)).2.1) ((put_at (by decide)).2.2.1.trans (zr13 26 (by decide)).2.2.1) dvX8 ?_
  have hx14 : Ok _ 2 none _ _ (wg w t gX1_init_14) (xat x 26 172) := ok_grow (w' := wg w t gX1_init_14) hx13 rfl rfl rfl rfl (lay_wg hL hb (by decide +kernel)) (by rw [hR.1]; decide) (by rw [hR.2]; decide)
  refine r_dup (pc' := 33) hx14 (hd 17) rfl rfl ?_
  refine z_pre (G0 := gX1_init_13) (o := 26) (s := 4) (U0 := UZ_X8_init) hb rfl (by decide) ((zr13 26 (by decide)).1.trans rfl) ((zr13 26 (by decide)).2.1.trans rfl) ((zr13 26 (by decide)).2.2.1.trans rfl) ((zr13 26 (by decide)).2.2.2.trans rfl) ?_
  refine q_callIN (G0 := gX1_init_13) (K := 26) (N := 172) (ci := 8) (o := 26) (As := []) (rest := [.ref (t + 26), .int 6, .ref (t + 1)]) rfl hb (by rw [hsz]; exact (by omega : t + 1 + 26 = t + 27)) hx14 (hd 18) mdI_X8_init rfl miI_X8_init mlI_1_17 (cX8_init (xl x) (wg w t gX1_init_13) (t + 26) (show Bel (wg w t gX1_init_13) (t + 26) from bel_wg hb) (Nat.le_trans hz (Nat.le_add_right _ _)) (lay_wg hL hb (by decide +kernel)) _) ⟨Nat.le_of_ble_eq_true rfl, Nat.le_of_ble_eq_true rfl⟩ (by rw [hR.1]; decide) (by rw [hR.2]; decide) rfl rfl (Nat.le_of_ble_eq_true rfl) ?_
  refine r_pcA (pc' := 36) rfl ?_
  refine z_post (by decide) ?_
  refine z_as (U' := (wr vX1_init_14 (qX1_init_14 t))) ((wrP ..).trans rfl) ?_
  have zr14 : Zr UZ_X1_init (wr vX1_init_14 (qX1_init_14 t)) 30 := Zr.cP zr13 (by decide) (by decide)
  have rn14 : Rny (wr vX1_init_14 (qX1_init_14 t)) [0, 1] := Rny.cP rn13 Rny.c
  have hx15 : Ok _ 2 none _ _ (wg w t gX1_init_15) (xat x 29 184) := ok_grow (w' := wg w t gX1_init_15) hx14 rfl rfl rfl rfl (lay_wg hL hb (by decide +kernel)) (by rw [hR.1]; decide) (by rw [hR.2]; decide)
  refine z_aast (pc' := 37) (k := 6) (c := 3) (ci := 8) (by decide) hx15 (hd 19) (wat_new (G := gX1_init_15) (o := 1) (kd := 60 + 3) (n := 9) (by decide +kernel)) (by decide) (by decide) (wat_new (G := gX1_init_15) (o := 26) (kd := 8) (n := 0) (by decide +kernel)) (by decide) rfl rfl rfl ?_
  refine z_as (U' := (wr vX1_init_15 (qX1_init_15 t))) ((wrR ..).trans rfl) ?_
  have zr15 : Zr UZ_X1_init (wr vX1_init_15 (qX1_init_15 t)) 30 := Zr.cR zr14 (by decide)
  have rn15 : Rny (wr vX1_init_15 (qX1_init_15 t)) [0, 1] := Rny.cR rn14 (by decide)
  refine z_iinc (pc' := 40) (v := 7) (L' := [(1, .int 7), (0, .ref t)]) (j := 0) hx15 (hd 20) rfl (by decide) (by decide) rfl rfl ?_
  refine r_goto (tgt := 15) hx15 (hd 21) (by decide) ?_
  refine r_iload_n (pc' := 16) hx15 (hd 8) rfl 0 rfl rfl ?_
  refine r_aload_n (pc' := 17) hx15 (hd 9) rfl 1 rfl rfl ?_
  refine z_getR (pc' := 20) (o := 1) (by decide) hx15 (hd 10) flI_1_11 (wat_new (G := gX1_init_15) (o := 0) (kd := 40 + 1) (n := 0) (by decide +kernel)) rfl rfl (by decide) rfl ?_
  refine z_alenR (pc' := 21) (c := 3) (v := 9) hx15 (hd 11) (wat_new (G := gX1_init_15) (o := 1) (kd := 60 + 3) (n := 9) (by decide +kernel)) rfl (by decide) rfl ?_
  refine z_geF (pc' := 24) 43 hx15 (hd 12) (by decide) (by decide) rfl ?_
  refine r_aload_n (pc' := 25) hx15 (hd 13) rfl 1 rfl rfl ?_
  refine z_getR (pc' := 28) (o := 1) (by decide) hx15 (hd 14) flI_1_11 (wat_new (G := gX1_init_15) (o := 0) (kd := 40 + 1) (n := 0) (by decide +kernel)) rfl rfl (by decide) rfl ?_
  refine r_iload_n (pc' := 29) hx15 (hd 15) rfl 0 rfl rfl ?_
  refine q_newO (G := gX1_init_15) (K := 29) (N := 184) (ci := 8) (o := 30) tyX8 rfl hb hz (by decide) (by rw [hsz]; exact (by omega : t + 1 + 29 = t + 30)) hx15 (hd 16) rfl inX8 tyX8_ok cl_1_9 ins_8 ini_8 (by decide) (by rw [hR.1]; decide) (by rw [hR.2]; decide) ((put_at (by decide)).1.trans (zr15 30 (by decide)).1) ((put_at (by decide)).2.1.trans (zr15 30 (by decide)).2.1) ((put_at (by decide)).2.2.1.trans (zr15 30 (by decide)).2.2.1) dvX8 ?_
  have hx16 : Ok _ 2 none _ _ (wg w t gX1_init_16) (xat x 30 197) := ok_grow (w' := wg w t gX1_init_16) hx15 rfl rfl rfl rfl (lay_wg hL hb (by decide +kernel)) (by rw [hR.1]; decide) (by rw [hR.2]; decide)
  refine r_dup (pc' := 33) hx16 (hd 17) rfl rfl ?_
  refine z_pre (G0 := gX1_init_15) (o := 30) (s := 4) (U0 := UZ_X8_init) hb rfl (by decide) ((zr15 30 (by decide)).1.trans rfl) ((zr15 30 (by decide)).2.1.trans rfl) ((zr15 30 (by decide)).2.2.1.trans rfl) ((zr15 30 (by decide)).2.2.2.trans rfl) ?_
  refine q_callIN (G0 := gX1_init_15) (K := 30) (N := 197) (ci := 8) (o := 30) (As := []) (rest := [.ref (t + 30), .int 7, .ref (t + 1)]) rfl hb (by rw [hsz]; exact (by omega : t + 1 + 30 = t + 31)) hx16 (hd 18) mdI_X8_init rfl miI_X8_init mlI_1_17 (cX8_init (xl x) (wg w t gX1_init_15) (t + 30) (show Bel (wg w t gX1_init_15) (t + 30) from bel_wg hb) (Nat.le_trans hz (Nat.le_add_right _ _)) (lay_wg hL hb (by decide +kernel)) _) ⟨Nat.le_of_ble_eq_true rfl, Nat.le_of_ble_eq_true rfl⟩ (by rw [hR.1]; decide) (by rw [hR.2]; decide) rfl rfl (Nat.le_of_ble_eq_true rfl) ?_
  refine r_pcA (pc' := 36) rfl ?_
  refine z_post (by decide) ?_
  refine z_as (U' := (wr vX1_init_16 (qX1_init_16 t))) ((wrP ..).trans rfl) ?_
  have zr16 : Zr UZ_X1_init (wr vX1_init_16 (qX1_init_16 t)) 34 := Zr.cP zr15 (by decide) (by decide)
  have rn16 : Rny (wr vX1_init_16 (qX1_init_16 t)) [0, 1] := Rny.cP rn15 Rny.c
  have hx17 : Ok _ 2 none _ _ (wg w t gX1_init_17) (xat x 33 209) := ok_grow (w' := wg w t gX1_init_17) hx16 rfl rfl rfl rfl (lay_wg hL hb (by decide +kernel)) (by rw [hR.1]; decide) (by rw [hR.2]; decide)
  refine z_aast (pc' := 37) (k := 7) (c := 3) (ci := 8) (by decide) hx17 (hd 19) (wat_new (G := gX1_init_17) (o := 1) (kd := 60 + 3) (n := 9) (by decide +kernel)) (by decide) (by decide) (wat_new (G := gX1_init_17) (o := 30) (kd := 8) (n := 0) (by decide +kernel)) (by decide) rfl rfl rfl ?_
  refine z_as (U' := (wr vX1_init_17 (qX1_init_17 t))) ((wrR ..).trans rfl) ?_
  have zr17 : Zr UZ_X1_init (wr vX1_init_17 (qX1_init_17 t)) 34 := Zr.cR zr16 (by decide)
  have rn17 : Rny (wr vX1_init_17 (qX1_init_17 t)) [0, 1] := Rny.cR rn16 (by decide)
  refine z_iinc (pc' := 40) (v := 8) (L' := [(1, .int 8), (0, .ref t)]) (j := 0) hx17 (hd 20) rfl (by decide) (by decide) rfl rfl ?_
  refine r_goto (tgt := 15) hx17 (hd 21) (by decide) ?_
  refine r_iload_n (pc' := 16) hx17 (hd 8) rfl 0 rfl rfl ?_
  refine r_aload_n (pc' := 17) hx17 (hd 9) rfl 1 rfl rfl ?_
  refine z_getR (pc' := 20) (o := 1) (by decide) hx17 (hd 10) flI_1_11 (wat_new (G := gX1_init_17) (o := 0) (kd := 40 + 1) (n := 0) (by decide +kernel)) rfl rfl (by decide) rfl ?_
  refine z_alenR (pc' := 21) (c := 3) (v := 9) hx17 (hd 11) (wat_new (G := gX1_init_17) (o := 1) (kd := 60 + 3) (n := 9) (by decide +kernel)) rfl (by decide) rfl ?_
  refine z_geF (pc' := 24) 43 hx17 (hd 12) (by decide) (by decide) rfl ?_
  refine r_aload_n (pc' := 25) hx17 (hd 13) rfl 1 rfl rfl ?_
  refine z_getR (pc' := 28) (o := 1) (by decide) hx17 (hd 14) flI_1_11 (wat_new (G := gX1_init_17) (o := 0) (kd := 40 + 1) (n := 0) (by decide +kernel)) rfl rfl (by decide) rfl ?_
  refine r_iload_n (pc' := 29) hx17 (hd 15) rfl 0 rfl rfl ?_
  refine q_newO (G := gX1_init_17) (K := 33) (N := 209) (ci := 8) (o := 34) tyX8 rfl hb hz (by decide) (by rw [hsz]; exact (by omega : t + 1 + 33 = t + 34)) hx17 (hd 16) rfl inX8 tyX8_ok cl_1_9 ins_8 ini_8 (by decide) (by rw [hR.1]; decide) (by rw [hR.2]; decide) ((put_at (by decide)).1.trans (zr17 34 (by decide)).1) ((put_at (by decide)).2.1.trans (zr17 34 (by decide)).2.1) ((put_at (by decide)).2.2.1.trans (zr17 34 (by decide)).2.2.1) dvX8 ?_
  have hx18 : Ok _ 2 none _ _ (wg w t gX1_init_18) (xat x 34 222) := ok_grow (w' := wg w t gX1_init_18) hx17 rfl rfl rfl rfl (lay_wg hL hb (by decide +kernel)) (by rw [hR.1]; decide) (by rw [hR.2]; decide)
  refine r_dup (pc' := 33) hx18 (hd 17) rfl rfl ?_
  refine z_pre (G0 := gX1_init_17) (o := 34) (s := 4) (U0 := UZ_X8_init) hb rfl (by decide) ((zr17 34 (by decide)).1.trans rfl) ((zr17 34 (by decide)).2.1.trans rfl) ((zr17 34 (by decide)).2.2.1.trans rfl) ((zr17 34 (by decide)).2.2.2.trans rfl) ?_
  refine q_callIN (G0 := gX1_init_17) (K := 34) (N := 222) (ci := 8) (o := 34) (As := []) (rest := [.ref (t + 34), .int 8, .ref (t + 1)]) rfl hb (by rw [hsz]; exact (by omega : t + 1 + 34 = t + 35)) hx18 (hd 18) mdI_X8_init rfl miI_X8_init mlI_1_17 (cX8_init (xl x) (wg w t gX1_init_17) (t + 34) (show Bel (wg w t gX1_init_17) (t + 34) from bel_wg hb) (Nat.le_trans hz (Nat.le_add_right _ _)) (lay_wg hL hb (by decide +kernel)) _) ⟨Nat.le_of_ble_eq_true rfl, Nat.le_of_ble_eq_true rfl⟩ (by rw [hR.1]; decide) (by rw [hR.2]; decide) rfl rfl (Nat.le_of_ble_eq_true rfl) ?_
  refine r_pcA (pc' := 36) rfl ?_
  refine z_post (by decide) ?_
  refine z_as (U' := (wr vX1_init_18 (qX1_init_18 t))) ((wrP ..).trans rfl) ?_
  have zr18 : Zr UZ_X1_init (wr vX1_init_18 (qX1_init_18 t)) 38 := Zr.cP zr17 (by decide) (by decide)
  have rn18 : Rny (wr vX1_init_18 (qX1_init_18 t)) [0, 1] := Rny.cP rn17 Rny.c
  have hx19 : Ok _ 2 none _ _ (wg w t gX1_init_19) (xat x 37 234) := ok_grow (w' := wg w t gX1_init_19) hx18 rfl rfl rfl rfl (lay_wg hL hb (by decide +kernel)) (by rw [hR.1]; decide) (by rw [hR.2]; decide)
  refine z_aast (pc' := 37) (k := 8) (c := 3) (ci := 8) (by decide) hx19 (hd 19) (wat_new (G := gX1_init_19) (o := 1) (kd := 60 + 3) (n := 9) (by decide +kernel)) (by decide) (by decide) (wat_new (G := gX1_init_19) (o := 34) (kd := 8) (n := 0) (by decide +kernel)) (by decide) rfl rfl rfl ?_
  refine z_as (U' := (wr vX1_init_19 (qX1_init_19 t))) ((wrR ..).trans rfl) ?_
  have zr19 : Zr UZ_X1_init (wr vX1_init_19 (qX1_init_19 t)) 38 := Zr.cR zr18 (by decide)
  have rn19 : Rny (wr vX1_init_19 (qX1_init_19 t)) [0, 1] := Rny.cR rn18 (by decide)
  refine z_iinc (pc' := 40) (v := 9) (L' := [(1, .int 9), (0, .ref t)]) (j := 0) hx19 (hd 20) rfl (by decide) (by decide) rfl rfl ?_
  refine r_goto (tgt := 15) hx19 (hd 21) (by decide) ?_
  refine r_iload_n (pc' := 16) hx19 (hd 8) rfl 0 rfl rfl ?_
  refine r_aload_n (pc' := 17) hx19 (hd 9) rfl 1 rfl rfl ?_
  refine z_getR (pc' := 20) (o := 1) (by decide) hx19 (hd 10) flI_1_11 (wat_new (G := gX1_init_19) (o := 0) (kd := 40 + 1) (n := 0) (by decide +kernel)) rfl rfl (by decide) rfl ?_
  refine z_alenR (pc' := 21) (c := 3) (v := 9) hx19 (hd 11) (wat_new (G := gX1_init_19) (o := 1) (kd := 60 + 3) (n := 9) (by decide +kernel)) rfl (by decide) rfl ?_
  refine z_geT 43 hx19 (hd 12) (by decide) (by decide) ?_
  refine z_done (G := gX1_init_19) (G' := G_X1_init) (l := [0, 1]) (T := T_X1_init) (ci := 1) hb rfl rfl rn19 (by decide +kernel) (by decide +kernel) (fun o ho H => by
    have e9 : o = 0 ∨ o = 1 := by simpa using ho
    rcases e9 with e9 | e9
    · subst e9
      exact va_done (S := 38) (ci := 1) (by decide) (by decide) (fun k hk => by
      match k, hk with
      | 0, _ => first | exact trivial | exact rfl
      | 1, _ => first | exact trivial | exact rfl
      | n + 2, h => exact absurd h (by rw [show nf 1 = 2 from rfl]; omega))
    · subst e9
      exact va_doneA (c := 3) (by decide) rfl (fun i hi => by
        match i, hi with
        | 0, _ => exact rfl
        | 1, _ => exact rfl
        | 2, _ => exact rfl
        | 3, _ => exact rfl
        | 4, _ => exact rfl
        | 5, _ => exact rfl
        | 6, _ => exact rfl
        | 7, _ => exact rfl
        | 8, _ => exact rfl
        | n + 9, h => exact absurd h (by show ¬ (n + 9 < 9); omega))) rfl ?_
  exact q_vretI (ok_grow (w' := wg w t G_X1_init) hx19 rfl rfl rfl rfl (lay_wg hL hb (by decide +kernel)) (by rw [hR.1]; decide) (by rw [hR.2]; decide)) (hd 22)
def qX11_init_0 (t : Nat) : Nat → Nat → Option Nat := fun _ _ => none
def qX11_init_1 (t : Nat) : Nat → Nat → Option Nat := fun a => if 1 ≤ a ∧ a < 1 + 9 then T_X6_init.2.2.1 (a - 1) else (qX11_init_0 t) a
def qX11_init_2 (t : Nat) : Nat → Nat → Option Nat := up2 (qX11_init_1 t) 0 0 (some (t + 1))
def qX11_init_3 (t : Nat) : Nat → Nat → Option Nat := fun a => if 11 ≤ a ∧ a < 11 + 9 then T_X6_init.2.2.1 (a - 11) else (qX11_init_2 t) a
def qX11_init_4 (t : Nat) : Nat → Nat → Option Nat := up2 (qX11_init_3 t) 10 0 (some (t + 11))
def qX11_init_5 (t : Nat) : Nat → Nat → Option Nat := fun a => if 20 ≤ a ∧ a < 20 + 9 then T_X6_init.2.2.1 (a - 20) else (qX11_init_4 t) a
def qX11_init_6 (t : Nat) : Nat → Nat → Option Nat := up2 (qX11_init_5 t) 10 1 (some (t + 20))
def qX11_init_7 (t : Nat) : Nat → Nat → Option Nat := up2 (qX11_init_6 t) 0 1 (some (t + 10))
def qX11_init_8 (t : Nat) : Nat → Nat → Option Nat := fun a => if 29 ≤ a ∧ a < 29 + 67 then T_X4_init.2.2.1 (a - 29) else (qX11_init_7 t) a
def qX11_init_9 (t : Nat) : Nat → Nat → Option Nat := up2 (qX11_init_8 t) 0 2 (some (t + 29))
def qX11_init_10 (t : Nat) : Nat → Nat → Option Nat := fun a => if 96 ≤ a ∧ a < 96 + 67 then T_X4_init.2.2.1 (a - 96) else (qX11_init_9 t) a
def qX11_init_11 (t : Nat) : Nat → Nat → Option Nat := up2 (qX11_init_10 t) 0 3 (some (t + 96))
def qX11_init_12 (t : Nat) : Nat → Nat → Option Nat := fun a => if 163 ≤ a ∧ a < 163 + 4 then T_X8_init.2.2.1 (a - 163) else (qX11_init_11 t) a
def qX11_init_13 (t : Nat) : Nat → Nat → Option Nat := up2 (qX11_init_12 t) 0 4 (some (t + 163))
def qX11_init_14 (t : Nat) : Nat → Nat → Option Nat := fun a => if 167 ≤ a ∧ a < 167 + 4 then T_X8_init.2.2.1 (a - 167) else (qX11_init_13 t) a
def qX11_init_15 (t : Nat) : Nat → Nat → Option Nat := up2 (qX11_init_14 t) 0 5 (some (t + 167))
def qX11_init_16 (t : Nat) : Nat → Nat → Option Nat := fun a => if 171 ≤ a ∧ a < 171 + 5 then T_X5_init.2.2.1 (a - 171) else (qX11_init_15 t) a
def qX11_init_17 (t : Nat) : Nat → Nat → Option Nat := up2 (qX11_init_16 t) 0 6 (some (t + 171))
def qX11_init_18 (t : Nat) : Nat → Nat → Option Nat := fun a => if 176 ≤ a ∧ a < 176 + 3 then T_X7_init.2.2.1 (a - 176) else (qX11_init_17 t) a
def qX11_init_19 (t : Nat) : Nat → Nat → Option Nat := up2 (qX11_init_18 t) 0 7 (some (t + 176))
def qX11_init_20 (t : Nat) : Nat → Nat → Option Nat := fun a => if 179 ≤ a ∧ a < 179 + 12 then T_X10_init.2.2.1 (a - 179) else (qX11_init_19 t) a
def qX11_init_21 (t : Nat) : Nat → Nat → Option Nat := up2 (qX11_init_20 t) 0 8 (some (t + 179))
def qX11_init_22 (t : Nat) : Nat → Nat → Option Nat := fun a => if 191 ≤ a ∧ a < 191 + 12 then T_X10_init.2.2.1 (a - 191) else (qX11_init_21 t) a
def qX11_init_23 (t : Nat) : Nat → Nat → Option Nat := up2 (qX11_init_22 t) 0 9 (some (t + 191))
def qX11_init_24 (t : Nat) : Nat → Nat → Option Nat := fun a => if 203 ≤ a ∧ a < 203 + 6 then T_X2_init.2.2.1 (a - 203) else (qX11_init_23 t) a
def qX11_init_25 (t : Nat) : Nat → Nat → Option Nat := up2 (qX11_init_24 t) 0 10 (some (t + 203))
def qX11_init_26 (t : Nat) : Nat → Nat → Option Nat := fun a => if 209 ≤ a ∧ a < 209 + 19 then T_X3_init.2.2.1 (a - 209) else (qX11_init_25 t) a
def qX11_init_27 (t : Nat) : Nat → Nat → Option Nat := up2 (qX11_init_26 t) 0 11 (some (t + 209))
def qX11_init_28 (t : Nat) : Nat → Nat → Option Nat := fun a => if 228 ≤ a ∧ a < 228 + 9 then T_X0_init.2.2.1 (a - 228) else (qX11_init_27 t) a
def qX11_init_29 (t : Nat) : Nat → Nat → Option Nat := up2 (qX11_init_28 t) 0 12 (some (t + 228))
def qX11_init_30 (t : Nat) : Nat → Nat → Option Nat := fun a => if 237 ≤ a ∧ a < 237 + 38 then T_X1_init.2.2.1 (a - 237) else (qX11_init_29 t) a
def qX11_init_31 (t : Nat) : Nat → Nat → Option Nat := up2 (qX11_init_30 t) 0 13 (some (t + 237))
def qX11_init_32 (t : Nat) : Nat → Nat → Option Nat := up2 (qX11_init_31 t) 0 14 (some (t + 275))
def qX11_init_33 (t : Nat) : Nat → Nat → Option Nat := (qX11_init_32 t)
def qX11_init_34 (t : Nat) : Nat → Nat → Option Nat := (qX11_init_33 t)
def qX11_init_35 (t : Nat) : Nat → Nat → Option Nat := up2 (qX11_init_34 t) 0 15 (some (t + 276))
def qX11_init_36 (t : Nat) : Nat → Nat → Option Nat := (qX11_init_35 t)
def gX11_init_0 : List (Nat × Nat) := [(51, 0)]
def gX11_init_1 : List (Nat × Nat) := gX11_init_0 ++ [(46, 0)]
def gX11_init_2 : List (Nat × Nat) := gX11_init_0 ++ G_X6_init
def gX11_init_3 : List (Nat × Nat) := gX11_init_2 ++ [(64, 2)]
def gX11_init_4 : List (Nat × Nat) := gX11_init_3 ++ [(46, 0)]
def gX11_init_5 : List (Nat × Nat) := gX11_init_3 ++ G_X6_init
def gX11_init_6 : List (Nat × Nat) := gX11_init_5 ++ [(46, 0)]
def gX11_init_7 : List (Nat × Nat) := gX11_init_5 ++ G_X6_init
def gX11_init_8 : List (Nat × Nat) := gX11_init_7 ++ [(44, 0)]
def gX11_init_9 : List (Nat × Nat) := gX11_init_7 ++ G_X4_init
def gX11_init_10 : List (Nat × Nat) := gX11_init_9 ++ [(44, 0)]
def gX11_init_11 : List (Nat × Nat) := gX11_init_9 ++ G_X4_init
def gX11_init_12 : List (Nat × Nat) := gX11_init_11 ++ [(48, 0)]
def gX11_init_13 : List (Nat × Nat) := gX11_init_11 ++ G_X8_init
def gX11_init_14 : List (Nat × Nat) := gX11_init_13 ++ [(48, 0)]
def gX11_init_15 : List (Nat × Nat) := gX11_init_13 ++ G_X8_init
def gX11_init_16 : List (Nat × Nat) := gX11_init_15 ++ [(45, 0)]
def gX11_init_17 : List (Nat × Nat) := gX11_init_15 ++ G_X5_init
def gX11_init_18 : List (Nat × Nat) := gX11_init_17 ++ [(47, 0)]
def gX11_init_19 : List (Nat × Nat) := gX11_init_17 ++ G_X7_init
def gX11_init_20 : List (Nat × Nat) := gX11_init_19 ++ [(50, 0)]
def gX11_init_21 : List (Nat × Nat) := gX11_init_19 ++ G_X10_init
def gX11_init_22 : List (Nat × Nat) := gX11_init_21 ++ [(50, 0)]
def gX11_init_23 : List (Nat × Nat) := gX11_init_21 ++ G_X10_init
def gX11_init_24 : List (Nat × Nat) := gX11_init_23 ++ [(42, 0)]
def gX11_init_25 : List (Nat × Nat) := gX11_init_23 ++ G_X2_init
def gX11_init_26 : List (Nat × Nat) := gX11_init_25 ++ [(43, 0)]
def gX11_init_27 : List (Nat × Nat) := gX11_init_25 ++ G_X3_init
def gX11_init_28 : List (Nat × Nat) := gX11_init_27 ++ [(40, 0)]
def gX11_init_29 : List (Nat × Nat) := gX11_init_27 ++ G_X0_init
def gX11_init_30 : List (Nat × Nat) := gX11_init_29 ++ [(41, 0)]
def gX11_init_31 : List (Nat × Nat) := gX11_init_29 ++ G_X1_init
def gX11_init_32 : List (Nat × Nat) := gX11_init_31 ++ [(20, 5)]
def gX11_init_33 : List (Nat × Nat) := gX11_init_32 ++ [(20, 2)]
def G_X11_init : List (Nat × Nat) := [(11, 0), (6, 0), (8, 0), (21, 2), (20, 2), (20, 8), (20, 6), (20, 6), (36, 6), (20, 3), (32, 2), (6, 0), (8, 0), (21, 2), (20, 2), (20, 8), (20, 6), (20, 6), (36, 6), (20, 3), (6, 0), (8, 0), (21, 2), (20, 2), (20, 8), (20, 6), (20, 6), (36, 6), (20, 3), (4, 0), (30, 16), (20, 16), (8, 0), (21, 2), (20, 2), (20, 8), (8, 0), (21, 2), (20, 2), (20, 8), (8, 0), (21, 2), (20, 2), (20, 8), (8, 0), (21, 2), (20, 2), (20, 8), (8, 0), (21, 2), (20, 2), (20, 8), (8, 0), (21, 2), (20, 2), (20, 8), (8, 0), (21, 2), (20, 2), (20, 8), (8, 0), (21, 2), (20, 2), (20, 8), (8, 0), (21, 2), (20, 2), (20, 8), (8, 0), (21, 2), (20, 2), (20, 8), (8, 0), (21, 2), (20, 2), (20, 8), (8, 0), (21, 2), (20, 2), (20, 8), (8, 0), (21, 2), (20, 2), (20, 8), (8, 0), (21, 2), (20, 2), (20, 8), (8, 0), (21, 2), (20, 2), (20, 8), (8, 0), (21, 2), (20, 2), (20, 8), (4, 0), (30, 16), (20, 16), (8, 0), (21, 2), (20, 2), (20, 8), (8, 0), (21, 2), (20, 2), (20, 8), (8, 0), (21, 2), (20, 2), (20, 8), (8, 0), (21, 2), (20, 2), (20, 8), (8, 0), (21, 2), (20, 2), (20, 8), (8, 0), (21, 2), (20, 2), (20, 8), (8, 0), (21, 2), (20, 2), (20, 8), (8, 0), (21, 2), (20, 2), (20, 8), (8, 0), (21, 2), (20, 2), (20, 8), (8, 0), (21, 2), (20, 2), (20, 8), (8, 0), (21, 2), (20, 2), (20, 8), (8, 0), (21, 2), (20, 2), (20, 8), (8, 0), (21, 2), (20, 2), (20, 8), (8, 0), (21, 2), (20, 2), (20, 8), (8, 0), (21, 2), (20, 2), (20, 8), (8, 0), (21, 2), (20, 2), (20, 8), (8, 0), (21, 2), (20, 2), (20, 8), (8, 0), (21, 2), (20, 2), (20, 8), (5, 0), (20, 400), (9, 0), (23, 0), (23, 0), (7, 0), (20, 19), (21, 32), (10, 0), (7, 0), (20, 19), (21, 32), (20, 52), (33, 6), (20, 39), (20, 39), (20, 39), (20, 39), (20, 39), (20, 39), (10, 0), (7, 0), (20, 19), (21, 32), (20, 52), (33, 6), (20, 39), (20, 39), (20, 39), (20, 39), (20, 39), (20, 39), (2, 0), (20, 4), (20, 13), (20, 13), (20, 13), (20, 32), (3, 0), (34, 15), (20, 52), (20, 52), (20, 52), (20, 52), (20, 52), (20, 52), (20, 52), (20, 52), (20, 52), (20, 52), (20, 52), (20, 52), (20, 52), (20, 52), (20, 52), (20, 15), (20, 15), (0, 0), (35, 4), (21, 32), (21, 32), (21, 32), (21, 32), (20, 13), (20, 4), (20, 13), (1, 0), (31, 9), (8, 0), (21, 2), (20, 2), (20, 8), (8, 0), (21, 2), (20, 2), (20, 8), (8, 0), (21, 2), (20, 2), (20, 8), (8, 0), (21, 2), (20, 2), (20, 8), (8, 0), (21, 2), (20, 2), (20, 8), (8, 0), (21, 2), (20, 2), (20, 8), (8, 0), (21, 2), (20, 2), (20, 8), (8, 0), (21, 2), (20, 2), (20, 8), (8, 0), (21, 2), (20, 2), (20, 8), (20, 5), (20, 2)]
abbrev yX11_init : MethodName := ({ cls := "CribbageRoom", name := "<init>", desc := "()V" } : Jvm.MethodName)
def tbX11_init : List (Nat × Instr × Nat) := [(0, .aload_n 0, 1), (1, .invokespecial 3, 3), (4, .aload_n 0, 1), (5, .new 9, 3), (8, .dup, 1), (9, .invokespecial 11, 3), (12, .putfield 12, 3), (15, .aload_n 0, 1), (16, .iconst 2, 1), (17, .anewarray 9, 3), (20, .dup, 1), (21, .iconst 0, 1), (22, .new 9, 3), (25, .dup, 1), (26, .invokespecial 11, 3), (29, .aastore, 1), (30, .dup, 1), (31, .iconst 1, 1), (32, .new 9, 3), (35, .dup, 1), (36, .invokespecial 11, 3), (39, .aastore, 1), (40, .putfield 16, 3), (43, .aload_n 0, 1), (44, .new 20, 3), (47, .dup, 1), (48, .invokespecial 22, 3), (51, .putfield 23, 3), (54, .aload_n 0, 1), (55, .new 20, 3), (58, .dup, 1), (59, .invokespecial 22, 3), (62, .putfield 27, 3), (65, .aload_n 0, 1), (66, .new 30, 3), (69, .dup, 1), (70, .invokespecial 32, 3), (73, .putfield 33, 3), (76, .aload_n 0, 1), (77, .new 30, 3), (80, .dup, 1), (81, .invokespecial 32, 3), (84, .putfield 37, 3), (87, .aload_n 0, 1), (88, .new 40, 3), (91, .dup, 1), (92, .invokespecial 42, 3), (95, .putfield 43, 3), (98, .aload_n 0, 1), (99, .new 47, 3), (102, .dup, 1), (103, .invokespecial 49, 3), (106, .putfield 50, 3), (109, .aload_n 0, 1), (110, .new 54, 3), (113, .dup, 1), (114, .invokespecial 56, 3), (117, .putfield 57, 3), (120, .aload_n 0, 1), (121, .new 54, 3), (124, .dup, 1), (125, .invokespecial 56, 3), (128, .putfield 61, 3), (131, .aload_n 0, 1), (132, .new 64, 3), (135, .dup, 1), (136, .invokespecial 66, 3), (139, .putfield 67, 3), (142, .aload_n 0, 1), (143, .new 71, 3), (146, .dup, 1), (147, .invokespecial 73, 3), (150, .putfield 74, 3), (153, .aload_n 0, 1), (154, .new 78, 3), (157, .dup, 1), (158, .invokespecial 80, 3), (161, .putfield 81, 3), (164, .aload_n 0, 1), (165, .new 85, 3), (168, .dup, 1), (169, .invokespecial 87, 3), (172, .putfield 88, 3), (175, .aload_n 0, 1), (176, .getstatic 92, 3), (179, .arraylength, 1), (180, .newarray .int, 2), (182, .putfield 96, 3), (185, .aload_n 0, 1), (186, .iconst 2, 1), (187, .newarray .int, 2), (189, .dup, 1), (190, .iconst 0, 1), (191, .iconst (-1), 1), (192, .iastore, 1), (193, .dup, 1), (194, .iconst 1, 1), (195, .iconst (-1), 1), (196, .iastore, 1), (197, .putfield 99, 3), (200, .aload_n 0, 1), (201, .iconst (-1), 1), (202, .putfield 102, 3), (205, .return_, 1)]
theorem dX11_init : ∀ q ∈ tbX11_init, decode prog_1_method_1_code q.1 = .ok q.2 := by decide +kernel
set_option maxRecDepth 50000 in
set_option maxHeartbeats 4000000 in
theorem cX11_init (l : Launch) (w : WX) (t : Nat) (hb : Bel w t) (hz : wz w ≤ t) (hL : Lay w) (M : Mem) : CtI l w t 11 yX11_init prog_1_method_1_code 1 3 61 276 4479 [.ref t] (put M t 277 UZ_X11_init) G_X11_init (put M t 277 T_X11_init) := by
  refine ctI_of (by decide) rfl (Nat.le_of_ble_eq_true rfl) (fun x hl hsz hR hin hx0 hb9 => ?_)
  subst hl
  have hd : ∀ i, DAt (xc x).code (tbX11_init[i]?) := fun i => by rw [hb9]; exact dat_of dX11_init i
  show C (xat x 0 0) (wg w t gX11_init_0) (Qi x w t G_X11_init (put M t 277 T_X11_init) 276 4479) 1 0 [(0, .ref t)] [] (put M t 277 UZ_X11_init) (some ())
  refine z_as (U' := (wr vX11_init_0 (qX11_init_0 t))) rfl ?_
  have zr0 : Zr UZ_X11_init (wr vX11_init_0 (qX11_init_0 t)) 1 := Zr.z0 rfl rfl rfl rfl
  have rn0 : Rny (wr vX11_init_0 (qX11_init_0 t)) [0, 10] := Rny.z9 rfl
  refine r_aload_n (pc' := 1) hx0 (hd 0) rfl 0 rfl rfl ?_
  refine q_objI hx0 (hd 1) mlI_11_3 ob_in ob_cd ⟨Nat.le_of_ble_eq_true rfl, Nat.le_of_ble_eq_true rfl⟩ (Nat.le_of_ble_eq_true rfl) ?_
  refine r_pcA (pc' := 4) rfl ?_
  refine r_aload_n (pc' := 5) hx0 (hd 2) rfl 0 rfl rfl ?_
  refine q_newO (G := gX11_init_0) (K := 0) (N := 0) (ci := 6) (o := 1) tyX6 rfl hb hz (by decide) (by rw [hsz]; exact (by omega : t + 1 + 0 = t + 1)) hx0 (hd 3) rfl inX6 tyX6_ok cl_11_9 ins_6 ini_6 (by decide) (by rw [hR.1]; decide) (by rw [hR.2]; decide) ((put_at (by decide)).1.trans (zr0 1 (by decide)).1) ((put_at (by decide)).2.1.trans (zr0 1 (by decide)).2.1) ((put_at (by decide)).2.2.1.trans (zr0 1 (by decide)).2.2.1) dvX6 ?_
  have hx1 : Ok _ 1 none _ _ (wg w t gX11_init_1) (xat x 1 10) := ok_grow (w' := wg w t gX11_init_1) hx0 rfl rfl rfl rfl (lay_wg hL hb (by decide +kernel)) (by rw [hR.1]; decide) (by rw [hR.2]; decide)
  refine r_dup (pc' := 9) hx1 (hd 4) rfl rfl ?_
  refine z_pre (G0 := gX11_init_0) (o := 1) (s := 9) (U0 := UZ_X6_init) hb rfl (by decide) ((zr0 1 (by decide)).1.trans rfl) ((zr0 1 (by decide)).2.1.trans rfl) ((zr0 1 (by decide)).2.2.1.trans rfl) ((zr0 1 (by decide)).2.2.2.trans rfl) ?_
  refine q_callIN (G0 := gX11_init_0) (K := 1) (N := 10) (ci := 6) (o := 1) (As := []) (rest := [.ref (t + 1), .ref t]) rfl hb (by rw [hsz]; exact (by omega : t + 1 + 1 = t + 2)) hx1 (hd 5) mdI_X6_init rfl miI_X6_init mlI_11_11 (cX6_init (xl x) (wg w t gX11_init_0) (t + 1) (show Bel (wg w t gX11_init_0) (t + 1) from bel_wg hb) (Nat.le_trans hz (Nat.le_add_right _ _)) (lay_wg hL hb (by decide +kernel)) _) ⟨Nat.le_of_ble_eq_true rfl, Nat.le_of_ble_eq_true rfl⟩ (by rw [hR.1]; decide) (by rw [hR.2]; decide) rfl rfl (Nat.le_of_ble_eq_true rfl) ?_
  refine r_pcA (pc' := 12) rfl ?_
  refine z_post (by decide) ?_
  refine z_as (U' := (wr vX11_init_1 (qX11_init_1 t))) ((wrP ..).trans rfl) ?_
  have zr1 : Zr UZ_X11_init (wr vX11_init_1 (qX11_init_1 t)) 10 := Zr.cP zr0 (by decide) (by decide)
  have rn1 : Rny (wr vX11_init_1 (qX11_init_1 t)) [0, 10] := Rny.cP rn0 Rny.c
  have hx2 : Ok _ 1 none _ _ (wg w t gX11_init_2) (xat x 9 56) := ok_grow (w' := wg w t gX11_init_2) hx1 rfl rfl rfl rfl (lay_wg hL hb (by decide +kernel)) (by rw [hR.1]; decide) (by rw [hR.2]; decide)
  refine z_putR (pc' := 15) (o := 1) (by decide) hx2 (hd 6) hin fw_11_12 (wat_new (G := gX11_init_2) (o := 0) (kd := 40 + 11) (n := 0) (by decide +kernel)) rfl (by decide) rfl rfl rfl ?_
  refine z_as (U' := (wr vX11_init_2 (qX11_init_2 t))) ((wrR ..).trans rfl) ?_
  have zr2 : Zr UZ_X11_init (wr vX11_init_2 (qX11_init_2 t)) 10 := Zr.cR zr1 (by decide)
  have rn2 : Rny (wr vX11_init_2 (qX11_init_2 t)) [0, 10] := Rny.cR rn1 (by decide)
  refine r_aload_n (pc' := 16) hx2 (hd 7) rfl 0 rfl rfl ?_
  refine r_iconst (pc' := 17) (v := 2) hx2 (hd 8) (by decide) rfl ?_
  refine q_anew (G := gX11_init_2) (K := 9) (N := 56) (kd := 64) (c := 4) (n := 2) (o := 10) rfl hb hz (by decide) (by rw [hsz]; exact (by omega : t + 1 + 9 = t + 10)) hx2 (hd 9) cl_11_9 ao_State rfl (by decide) (by decide) (by decide) (by rw [hR.1]; decide) (by rw [hR.2]; decide) (ce_refs (c := 4) (G := gX11_init_2) (S := 277) (by decide) (zr2 10 (by decide)).2.2.1) (nr_put (by decide) (zr2 10 (by decide)).2.2.1) ?_
  have hx3 : Ok _ 1 none _ _ (wg w t gX11_init_3) (xat x 10 58) := ok_grow (w' := wg w t gX11_init_3) hx2 rfl rfl rfl rfl (lay_wg hL hb (by decide +kernel)) (by rw [hR.1]; decide) (by rw [hR.2]; decide)
  refine r_dup (pc' := 21) hx3 (hd 10) rfl rfl ?_
  refine r_iconst (pc' := 22) (v := 0) hx3 (hd 11) (by decide) rfl ?_
  refine q_newO (G := gX11_init_3) (K := 10) (N := 58) (ci := 6) (o := 11) tyX6 rfl hb hz (by decide) (by rw [hsz]; exact (by omega : t + 1 + 10 = t + 11)) hx3 (hd 12) rfl inX6 tyX6_ok cl_11_9 ins_6 ini_6 (by decide) (by rw [hR.1]; decide) (by rw [hR.2]; decide) ((put_at (by decide)).1.trans (zr2 11 (by decide)).1) ((put_at (by decide)).2.1.trans (zr2 11 (by decide)).2.1) ((put_at (by decide)).2.2.1.trans (zr2 11 (by decide)).2.2.1) dvX6 ?_
  have hx4 : Ok _ 1 none _ _ (wg w t gX11_init_4) (xat x 11 68) := ok_grow (w' := wg w t gX11_init_4) hx3 rfl rfl rfl rfl (lay_wg hL hb (by decide +kernel)) (by rw [hR.1]; decide) (by rw [hR.2]; decide)
  refine r_dup (pc' := 26) hx4 (hd 13) rfl rfl ?_
  refine z_pre (G0 := gX11_init_3) (o := 11) (s := 9) (U0 := UZ_X6_init) hb rfl (by decide) ((zr2 11 (by decide)).1.trans rfl) ((zr2 11 (by decide)).2.1.trans rfl) ((zr2 11 (by decide)).2.2.1.trans rfl) ((zr2 11 (by decide)).2.2.2.trans rfl) ?_
  refine q_callIN (G0 := gX11_init_3) (K := 11) (N := 68) (ci := 6) (o := 11) (As := []) (rest := [.ref (t + 11), .int 0, .ref (t + 10), .ref (t + 10), .ref t]) rfl hb (by rw [hsz]; exact (by omega : t + 1 + 11 = t + 12)) hx4 (hd 14) mdI_X6_init rfl miI_X6_init mlI_11_11 (cX6_init (xl x) (wg w t gX11_init_3) (t + 11) (show Bel (wg w t gX11_init_3) (t + 11) from bel_wg hb) (Nat.le_trans hz (Nat.le_add_right _ _)) (lay_wg hL hb (by decide +kernel)) _) ⟨Nat.le_of_ble_eq_true rfl, Nat.le_of_ble_eq_true rfl⟩ (by rw [hR.1]; decide) (by rw [hR.2]; decide) rfl rfl (Nat.le_of_ble_eq_true rfl) ?_
  refine r_pcA (pc' := 29) rfl ?_
  refine z_post (by decide) ?_
  refine z_as (U' := (wr vX11_init_3 (qX11_init_3 t))) ((wrP ..).trans rfl) ?_
  have zr3 : Zr UZ_X11_init (wr vX11_init_3 (qX11_init_3 t)) 20 := Zr.cP zr2 (by decide) (by decide)
  have rn3 : Rny (wr vX11_init_3 (qX11_init_3 t)) [0, 10] := Rny.cP rn2 Rny.c
  have hx5 : Ok _ 1 none _ _ (wg w t gX11_init_5) (xat x 19 114) := ok_grow (w' := wg w t gX11_init_5) hx4 rfl rfl rfl rfl (lay_wg hL hb (by decide +kernel)) (by rw [hR.1]; decide) (by rw [hR.2]; decide)
  refine z_aast (pc' := 30) (k := 0) (c := 4) (ci := 6) (by decide) hx5 (hd 15) (wat_new (G := gX11_init_5) (o := 10) (kd := 60 + 4) (n := 2) (by decide +kernel)) (by decide) (by decide) (wat_new (G := gX11_init_5) (o := 11) (kd := 6) (n := 0) (by decide +kernel)) (by decide) rfl rfl rfl ?_
  refine z_as (U' := (wr vX11_init_4 (qX11_init_4 t))) ((wrR ..).trans rfl) ?_
  have zr4 : Zr UZ_X11_init (wr vX11_init_4 (qX11_init_4 t)) 20 := Zr.cR zr3 (by decide)
  have rn4 : Rny (wr vX11_init_4 (qX11_init_4 t)) [0, 10] := Rny.cR rn3 (by decide)
  refine r_dup (pc' := 31) hx5 (hd 16) rfl rfl ?_
  refine r_iconst (pc' := 32) (v := 1) hx5 (hd 17) (by decide) rfl ?_
  refine q_newO (G := gX11_init_5) (K := 19) (N := 114) (ci := 6) (o := 20) tyX6 rfl hb hz (by decide) (by rw [hsz]; exact (by omega : t + 1 + 19 = t + 20)) hx5 (hd 18) rfl inX6 tyX6_ok cl_11_9 ins_6 ini_6 (by decide) (by rw [hR.1]; decide) (by rw [hR.2]; decide) ((put_at (by decide)).1.trans (zr4 20 (by decide)).1) ((put_at (by decide)).2.1.trans (zr4 20 (by decide)).2.1) ((put_at (by decide)).2.2.1.trans (zr4 20 (by decide)).2.2.1) dvX6 ?_
  have hx6 : Ok _ 1 none _ _ (wg w t gX11_init_6) (xat x 20 124) := ok_grow (w' := wg w t gX11_init_6) hx5 rfl rfl rfl rfl (lay_wg hL hb (by decide +kernel)) (by rw [hR.1]; decide) (by rw [hR.2]; decide)
  refine r_dup (pc' := 36) hx6 (hd 19) rfl rfl ?_
  refine z_pre (G0 := gX11_init_5) (o := 20) (s := 9) (U0 := UZ_X6_init) hb rfl (by decide) ((zr4 20 (by decide)).1.trans rfl) ((zr4 20 (by decide)).2.1.trans rfl) ((zr4 20 (by decide)).2.2.1.trans rfl) ((zr4 20 (by decide)).2.2.2.trans rfl) ?_
  refine q_callIN (G0 := gX11_init_5) (K := 20) (N := 124) (ci := 6) (o := 20) (As := []) (rest := [.ref (t + 20), .int 1, .ref (t + 10), .ref (t + 10), .ref t]) rfl hb (by rw [hsz]; exact (by omega : t + 1 + 20 = t + 21)) hx6 (hd 20) mdI_X6_init rfl miI_X6_init mlI_11_11 (cX6_init (xl x) (wg w t gX11_init_5) (t + 20) (show Bel (wg w t gX11_init_5) (t + 20) from bel_wg hb) (Nat.le_trans hz (Nat.le_add_right _ _)) (lay_wg hL hb (by decide +kernel)) _) ⟨Nat.le_of_ble_eq_true rfl, Nat.le_of_ble_eq_true rfl⟩ (by rw [hR.1]; decide) (by rw [hR.2]; decide) rfl rfl (Nat.le_of_ble_eq_true rfl) ?_
  refine r_pcA (pc' := 39) rfl ?_
  refine z_post (by decide) ?_
  refine z_as (U' := (wr vX11_init_5 (qX11_init_5 t))) ((wrP ..).trans rfl) ?_
  have zr5 : Zr UZ_X11_init (wr vX11_init_5 (qX11_init_5 t)) 29 := Zr.cP zr4 (by decide) (by decide)
  have rn5 : Rny (wr vX11_init_5 (qX11_init_5 t)) [0, 10] := Rny.cP rn4 Rny.c
  have hx7 : Ok _ 1 none _ _ (wg w t gX11_init_7) (xat x 28 170) := ok_grow (w' := wg w t gX11_init_7) hx6 rfl rfl rfl rfl (lay_wg hL hb (by decide +kernel)) (by rw [hR.1]; decide) (by rw [hR.2]; decide)
  refine z_aast (pc' := 40) (k := 1) (c := 4) (ci := 6) (by decide) hx7 (hd 21) (wat_new (G := gX11_init_7) (o := 10) (kd := 60 + 4) (n := 2) (by decide +kernel)) (by decide) (by decide) (wat_new (G := gX11_init_7) (o := 20) (kd := 6) (n := 0) (by decide +kernel)) (by decide) rfl rfl rfl ?_
  refine z_as (U' := (wr vX11_init_6 (qX11_init_6 t))) ((wrR ..).trans rfl) ?_
  have zr6 : Zr UZ_X11_init (wr vX11_init_6 (qX11_init_6 t)) 29 := Zr.cR zr5 (by decide)
  have rn6 : Rny (wr vX11_init_6 (qX11_init_6 t)) [0, 10] := Rny.cR rn5 (by decide)
  refine z_putR (pc' := 43) (o := 10) (by decide) hx7 (hd 22) hin fw_11_16 (wat_new (G := gX11_init_7) (o := 0) (kd := 40 + 11) (n := 0) (by decide +kernel)) rfl (by decide) rfl rfl rfl ?_
  refine z_as (U' := (wr vX11_init_7 (qX11_init_7 t))) ((wrR ..).trans rfl) ?_
  have zr7 : Zr UZ_X11_init (wr vX11_init_7 (qX11_init_7 t)) 29 := Zr.cR zr6 (by decide)
  have rn7 : Rny (wr vX11_init_7 (qX11_init_7 t)) [0, 10] := Rny.cR rn6 (by decide)
  refine r_aload_n (pc' := 44) hx7 (hd 23) rfl 0 rfl rfl ?_
  refine q_newO (G := gX11_init_7) (K := 28) (N := 170) (ci := 4) (o := 29) tyX4 rfl hb hz (by decide) (by rw [hsz]; exact (by omega : t + 1 + 28 = t + 29)) hx7 (hd 24) rfl inX4 tyX4_ok cl_11_20 ins_4 ini_4 (by decide) (by rw [hR.1]; decide) (by rw [hR.2]; decide) ((put_at (by decide)).1.trans (zr7 29 (by decide)).1) ((put_at (by decide)).2.1.trans (zr7 29 (by decide)).2.1) ((put_at (by decide)).2.2.1.trans (zr7 29 (by decide)).2.2.1) dvX4 ?_
  have hx8 : Ok _ 1 none _ _ (wg w t gX11_init_8) (xat x 29 174) := ok_grow (w' := wg w t gX11_init_8) hx7 rfl rfl rfl rfl (lay_wg hL hb (by decide +kernel)) (by rw [hR.1]; decide) (by rw [hR.2]; decide)
  refine r_dup (pc' := 48) hx8 (hd 25) rfl rfl ?_
  refine z_pre (G0 := gX11_init_7) (o := 29) (s := 67) (U0 := UZ_X4_init) hb rfl (by decide) ((zr7 29 (by decide)).1.trans rfl) ((zr7 29 (by decide)).2.1.trans rfl) ((zr7 29 (by decide)).2.2.1.trans rfl) ((zr7 29 (by decide)).2.2.2.trans rfl) ?_
  refine q_callI (G0 := gX11_init_7) (K := 29) (N := 174) (ci := 4) (o := 29) (As := []) (rest := [.ref (t + 29), .ref t]) rfl hb (by rw [hsz]; exact (by omega : t + 1 + 29 = t + 30)) hx8 (hd 26) mdI_X4_init rfl miI_X4_init mlI_11_22 (cX4_init (xl x) (wg w t gX11_init_7) (t + 29) (show Bel (wg w t gX11_init_7) (t + 29) from bel_wg hb) (Nat.le_trans hz (Nat.le_add_right _ _)) (lay_wg hL hb (by decide +kernel)) _) ⟨Nat.le_of_ble_eq_true rfl, Nat.le_of_ble_eq_true rfl⟩ (by rw [hR.1]; decide) (by rw [hR.2]; decide) rfl rfl (Nat.le_of_ble_eq_true rfl) ?_
  refine r_pcA (pc' := 51) rfl ?_
  refine z_post (by decide) ?_
  refine z_as (U' := (wr vX11_init_8 (qX11_init_8 t))) ((wrP ..).trans rfl) ?_
  have zr8 : Zr UZ_X11_init (wr vX11_init_8 (qX11_init_8 t)) 96 := Zr.cP zr7 (by decide) (by decide)
  have rn8 : Rny (wr vX11_init_8 (qX11_init_8 t)) [0, 10] := Rny.cP rn7 Rny.c
  have hx9 : Ok _ 1 none _ _ (wg w t gX11_init_9) (xat x 95 606) := ok_grow (w' := wg w t gX11_init_9) hx8 rfl rfl rfl rfl (lay_wg hL hb (by decide +kernel)) (by rw [hR.1]; decide) (by rw [hR.2]; decide)
  refine z_putR (pc' := 54) (o := 29) (by decide) hx9 (hd 27) hin fw_11_23 (wat_new (G := gX11_init_9) (o := 0) (kd := 40 + 11) (n := 0) (by decide +kernel)) rfl (by decide) rfl rfl rfl ?_
  refine z_as (U' := (wr vX11_init_9 (qX11_init_9 t))) ((wrR ..).trans rfl) ?_
  have zr9 : Zr UZ_X11_init (wr vX11_init_9 (qX11_init_9 t)) 96 := Zr.cR zr8 (by decide)
  have rn9 : Rny (wr vX11_init_9 (qX11_init_9 t)) [0, 10] := Rny.cR rn8 (by decide)
  refine r_aload_n (pc' := 55) hx9 (hd 28) rfl 0 rfl rfl ?_
  refine q_newO (G := gX11_init_9) (K := 95) (N := 606) (ci := 4) (o := 96) tyX4 rfl hb hz (by decide) (by rw [hsz]; exact (by omega : t + 1 + 95 = t + 96)) hx9 (hd 29) rfl inX4 tyX4_ok cl_11_20 ins_4 ini_4 (by decide) (by rw [hR.1]; decide) (by rw [hR.2]; decide) ((put_at (by decide)).1.trans (zr9 96 (by decide)).1) ((put_at (by decide)).2.1.trans (zr9 96 (by decide)).2.1) ((put_at (by decide)).2.2.1.trans (zr9 96 (by decide)).2.2.1) dvX4 ?_
  have hx10 : Ok _ 1 none _ _ (wg w t gX11_init_10) (xat x 96 610) := ok_grow (w' := wg w t gX11_init_10) hx9 rfl rfl rfl rfl (lay_wg hL hb (by decide +kernel)) (by rw [hR.1]; decide) (by rw [hR.2]; decide)
  refine r_dup (pc' := 59) hx10 (hd 30) rfl rfl ?_
  refine z_pre (G0 := gX11_init_9) (o := 96) (s := 67) (U0 := UZ_X4_init) hb rfl (by decide) ((zr9 96 (by decide)).1.trans rfl) ((zr9 96 (by decide)).2.1.trans rfl) ((zr9 96 (by decide)).2.2.1.trans rfl) ((zr9 96 (by decide)).2.2.2.trans rfl) ?_
  refine q_callI (G0 := gX11_init_9) (K := 96) (N := 610) (ci := 4) (o := 96) (As := []) (rest := [.ref (t + 96), .ref t]) rfl hb (by rw [hsz]; exact (by omega : t + 1 + 96 = t + 97)) hx10 (hd 31) mdI_X4_init rfl miI_X4_init mlI_11_22 (cX4_init (xl x) (wg w t gX11_init_9) (t + 96) (show Bel (wg w t gX11_init_9) (t + 96) from bel_wg hb) (Nat.le_trans hz (Nat.le_add_right _ _)) (lay_wg hL hb (by decide +kernel)) _) ⟨Nat.le_of_ble_eq_true rfl, Nat.le_of_ble_eq_true rfl⟩ (by rw [hR.1]; decide) (by rw [hR.2]; decide) rfl rfl (Nat.le_of_ble_eq_true rfl) ?_
  refine r_pcA (pc' := 62) rfl ?_
  refine z_post (by decide) ?_
  refine z_as (U' := (wr vX11_init_10 (qX11_init_10 t))) ((wrP ..).trans rfl) ?_
  have zr10 : Zr UZ_X11_init (wr vX11_init_10 (qX11_init_10 t)) 163 := Zr.cP zr9 (by decide) (by decide)
  have rn10 : Rny (wr vX11_init_10 (qX11_init_10 t)) [0, 10] := Rny.cP rn9 Rny.c
  have hx11 : Ok _ 1 none _ _ (wg w t gX11_init_11) (xat x 162 1042) := ok_grow (w' := wg w t gX11_init_11) hx10 rfl rfl rfl rfl (lay_wg hL hb (by decide +kernel)) (by rw [hR.1]; decide) (by rw [hR.2]; decide)
  refine z_putR (pc' := 65) (o := 96) (by decide) hx11 (hd 32) hin fw_11_27 (wat_new (G := gX11_init_11) (o := 0) (kd := 40 + 11) (n := 0) (by decide +kernel)) rfl (by decide) rfl rfl rfl ?_
  refine z_as (U' := (wr vX11_init_11 (qX11_init_11 t))) ((wrR ..).trans rfl) ?_
  have zr11 : Zr UZ_X11_init (wr vX11_init_11 (qX11_init_11 t)) 163 := Zr.cR zr10 (by decide)
  have rn11 : Rny (wr vX11_init_11 (qX11_init_11 t)) [0, 10] := Rny.cR rn10 (by decide)
  refine r_aload_n (pc' := 66) hx11 (hd 33) rfl 0 rfl rfl ?_
  refine q_newO (G := gX11_init_11) (K := 162) (N := 1042) (ci := 8) (o := 163) tyX8 rfl hb hz (by decide) (by rw [hsz]; exact (by omega : t + 1 + 162 = t + 163)) hx11 (hd 34) rfl inX8 tyX8_ok cl_11_30 ins_8 ini_8 (by decide) (by rw [hR.1]; decide) (by rw [hR.2]; decide) ((put_at (by decide)).1.trans (zr11 163 (by decide)).1) ((put_at (by decide)).2.1.trans (zr11 163 (by decide)).2.1) ((put_at (by decide)).2.2.1.trans (zr11 163 (by decide)).2.2.1) dvX8 ?_
  have hx12 : Ok _ 1 none _ _ (wg w t gX11_init_12) (xat x 163 1055) := ok_grow (w' := wg w t gX11_init_12) hx11 rfl rfl rfl rfl (lay_wg hL hb (by decide +kernel)) (by rw [hR.1]; decide) (by rw [hR.2]; decide)
  refine r_dup (pc' := 70) hx12 (hd 35) rfl rfl ?_
  refine z_pre (G0 := gX11_init_11) (o := 163) (s := 4) (U0 := UZ_X8_init) hb rfl (by decide) ((zr11 163 (by decide)).1.trans rfl) ((zr11 163 (by decide)).2.1.trans rfl) ((zr11 163 (by decide)).2.2.1.trans rfl) ((zr11 163 (by decide)).2.2.2.trans rfl) ?_
  refine q_callIN (G0 := gX11_init_11) (K := 163) (N := 1055) (ci := 8) (o := 163) (As := []) (rest := [.ref (t + 163), .ref t]) rfl hb (by rw [hsz]; exact (by omega : t + 1 + 163 = t + 164)) hx12 (hd 36) mdI_X8_init rfl miI_X8_init mlI_11_32 (cX8_init (xl x) (wg w t gX11_init_11) (t + 163) (show Bel (wg w t gX11_init_11) (t + 163) from bel_wg hb) (Nat.le_trans hz (Nat.le_add_right _ _)) (lay_wg hL hb (by decide +kernel)) _) ⟨Nat.le_of_ble_eq_true rfl, Nat.le_of_ble_eq_true rfl⟩ (by rw [hR.1]; decide) (by rw [hR.2]; decide) rfl rfl (Nat.le_of_ble_eq_true rfl) ?_
  refine r_pcA (pc' := 73) rfl ?_
  refine z_post (by decide) ?_
  refine z_as (U' := (wr vX11_init_12 (qX11_init_12 t))) ((wrP ..).trans rfl) ?_
  have zr12 : Zr UZ_X11_init (wr vX11_init_12 (qX11_init_12 t)) 167 := Zr.cP zr11 (by decide) (by decide)
  have rn12 : Rny (wr vX11_init_12 (qX11_init_12 t)) [0, 10] := Rny.cP rn11 Rny.c
  have hx13 : Ok _ 1 none _ _ (wg w t gX11_init_13) (xat x 166 1067) := ok_grow (w' := wg w t gX11_init_13) hx12 rfl rfl rfl rfl (lay_wg hL hb (by decide +kernel)) (by rw [hR.1]; decide) (by rw [hR.2]; decide)
  refine z_putR (pc' := 76) (o := 163) (by decide) hx13 (hd 37) hin fw_11_33 (wat_new (G := gX11_init_13) (o := 0) (kd := 40 + 11) (n := 0) (by decide +kernel)) rfl (by decide) rfl rfl rfl ?_
  refine z_as (U' := (wr vX11_init_13 (qX11_init_13 t))) ((wrR ..).trans rfl) ?_
  have zr13 : Zr UZ_X11_init (wr vX11_init_13 (qX11_init_13 t)) 167 := Zr.cR zr12 (by decide)
  have rn13 : Rny (wr vX11_init_13 (qX11_init_13 t)) [0, 10] := Rny.cR rn12 (by decide)
  refine r_aload_n (pc' := 77) hx13 (hd 38) rfl 0 rfl rfl ?_
  refine q_newO (G := gX11_init_13) (K := 166) (N := 1067) (ci := 8) (o := 167) tyX8 rfl hb hz (by decide) (by rw [hsz]; exact (by omega : t + 1 + 166 = t + 167)) hx13 (hd 39) rfl inX8 tyX8_ok cl_11_30 ins_8 ini_8 (by decide) (by rw [hR.1]; decide) (by rw [hR.2]; decide) ((put_at (by decide)).1.trans (zr13 167 (by decide)).1) ((put_at (by decide)).2.1.trans (zr13 167 (by decide)).2.1) ((put_at (by decide)).2.2.1.trans (zr13 167 (by decide)).2.2.1) dvX8 ?_
  have hx14 : Ok _ 1 none _ _ (wg w t gX11_init_14) (xat x 167 1080) := ok_grow (w' := wg w t gX11_init_14) hx13 rfl rfl rfl rfl (lay_wg hL hb (by decide +kernel)) (by rw [hR.1]; decide) (by rw [hR.2]; decide)
  refine r_dup (pc' := 81) hx14 (hd 40) rfl rfl ?_
  refine z_pre (G0 := gX11_init_13) (o := 167) (s := 4) (U0 := UZ_X8_init) hb rfl (by decide) ((zr13 167 (by decide)).1.trans rfl) ((zr13 167 (by decide)).2.1.trans rfl) ((zr13 167 (by decide)).2.2.1.trans rfl) ((zr13 167 (by decide)).2.2.2.trans rfl) ?_
  refine q_callIN (G0 := gX11_init_13) (K := 167) (N := 1080) (ci := 8) (o := 167) (As := []) (rest := [.ref (t + 167), .ref t]) rfl hb (by rw [hsz]; exact (by omega : t + 1 + 167 = t + 168)) hx14 (hd 41) mdI_X8_init rfl miI_X8_init mlI_11_32 (cX8_init (xl x) (wg w t gX11_init_13) (t + 167) (show Bel (wg w t gX11_init_13) (t + 167) from bel_wg hb) (Nat.le_trans hz (Nat.le_add_right _ _)) (lay_wg hL hb (by decide +kernel)) _) ⟨Nat.le_of_ble_eq_true rfl, Nat.le_of_ble_eq_true rfl⟩ (by rw [hR.1]; decide) (by rw [hR.2]; decide) rfl rfl (Nat.le_of_ble_eq_true rfl) ?_
  refine r_pcA (pc' := 84) rfl ?_
  refine z_post (by decide) ?_
  refine z_as (U' := (wr vX11_init_14 (qX11_init_14 t))) ((wrP ..).trans rfl) ?_
  have zr14 : Zr UZ_X11_init (wr vX11_init_14 (qX11_init_14 t)) 171 := Zr.cP zr13 (by decide) (by decide)
  have rn14 : Rny (wr vX11_init_14 (qX11_init_14 t)) [0, 10] := Rny.cP rn13 Rny.c
  have hx15 : Ok _ 1 none _ _ (wg w t gX11_init_15) (xat x 170 1092) := ok_grow (w' := wg w t gX11_init_15) hx14 rfl rfl rfl rfl (lay_wg hL hb (by decide +kernel)) (by rw [hR.1]; decide) (by rw [hR.2]; decide)
  refine z_putR (pc' := 87) (o := 167) (by decide) hx15 (hd 42) hin fw_11_37 (wat_new (G := gX11_init_15) (o := 0) (kd := 40 + 11) (n := 0) (by decide +kernel)) rfl (by decide) rfl rfl rfl ?_
  refine z_as (U' := (wr vX11_init_15 (qX11_init_15 t))) ((wrR ..).trans rfl) ?_
  have zr15 : Zr UZ_X11_init (wr vX11_init_15 (qX11_init_15 t)) 171 := Zr.cR zr14 (by decide)
  have rn15 : Rny (wr vX11_init_15 (qX11_init_15 t)) [0, 10] := Rny.cR rn14 (by decide)
  refine r_aload_n (pc' := 88) hx15 (hd 43) rfl 0 rfl rfl ?_
  refine q_newO (G := gX11_init_15) (K := 170) (N := 1092) (ci := 5) (o := 171) tyX5 rfl hb hz (by decide) (by rw [hsz]; exact (by omega : t + 1 + 170 = t + 171)) hx15 (hd 44) rfl inX5 tyX5_ok cl_11_40 ins_5 ini_5 (by decide) (by rw [hR.1]; decide) (by rw [hR.2]; decide) ((put_at (by decide)).1.trans (zr15 171 (by decide)).1) ((put_at (by decide)).2.1.trans (zr15 171 (by decide)).2.1) ((put_at (by decide)).2.2.1.trans (zr15 171 (by decide)).2.2.1) dvX5 ?_
  have hx16 : Ok _ 1 none _ _ (wg w t gX11_init_16) (xat x 171 1102) := ok_grow (w' := wg w t gX11_init_16) hx15 rfl rfl rfl rfl (lay_wg hL hb (by decide +kernel)) (by rw [hR.1]; decide) (by rw [hR.2]; decide)
  refine r_dup (pc' := 92) hx16 (hd 45) rfl rfl ?_
  refine z_pre (G0 := gX11_init_15) (o := 171) (s := 5) (U0 := UZ_X5_init) hb rfl (by decide) ((zr15 171 (by decide)).1.trans rfl) ((zr15 171 (by decide)).2.1.trans rfl) ((zr15 171 (by decide)).2.2.1.trans rfl) ((zr15 171 (by decide)).2.2.2.trans rfl) ?_
  refine q_callIN (G0 := gX11_init_15) (K := 171) (N := 1102) (ci := 5) (o := 171) (As := []) (rest := [.ref (t + 171), .ref t]) rfl hb (by rw [hsz]; exact (by omega : t + 1 + 171 = t + 172)) hx16 (hd 46) mdI_X5_init rfl miI_X5_init mlI_11_42 (cX5_init (xl x) (wg w t gX11_init_15) (t + 171) (show Bel (wg w t gX11_init_15) (t + 171) from bel_wg hb) (Nat.le_trans hz (Nat.le_add_right _ _)) (lay_wg hL hb (by decide +kernel)) _) ⟨Nat.le_of_ble_eq_true rfl, Nat.le_of_ble_eq_true rfl⟩ (by rw [hR.1]; decide) (by rw [hR.2]; decide) rfl rfl (Nat.le_of_ble_eq_true rfl) ?_
  refine r_pcA (pc' := 95) rfl ?_
  refine z_post (by decide) ?_
  refine z_as (U' := (wr vX11_init_16 (qX11_init_16 t))) ((wrP ..).trans rfl) ?_
  have zr16 : Zr UZ_X11_init (wr vX11_init_16 (qX11_init_16 t)) 176 := Zr.cP zr15 (by decide) (by decide)
  have rn16 : Rny (wr vX11_init_16 (qX11_init_16 t)) [0, 10] := Rny.cP rn15 Rny.c
  have hx17 : Ok _ 1 none _ _ (wg w t gX11_init_17) (xat x 175 2379) := ok_grow (w' := wg w t gX11_init_17) hx16 rfl rfl rfl rfl (lay_wg hL hb (by decide +kernel)) (by rw [hR.1]; decide) (by rw [hR.2]; decide)
  refine z_putR (pc' := 98) (o := 171) (by decide) hx17 (hd 47) hin fw_11_43 (wat_new (G := gX11_init_17) (o := 0) (kd := 40 + 11) (n := 0) (by decide +kernel)) rfl (by decide) rfl rfl rfl ?_
  refine z_as (U' := (wr vX11_init_17 (qX11_init_17 t))) ((wrR ..).trans rfl) ?_
  have zr17 : Zr UZ_X11_init (wr vX11_init_17 (qX11_init_17 t)) 176 := Zr.cR zr16 (by decide)
  have rn17 : Rny (wr vX11_init_17 (qX11_init_17 t)) [0, 10] := Rny.cR rn16 (by decide)
  refine r_aload_n (pc' := 99) hx17 (hd 48) rfl 0 rfl rfl ?_
  refine q_newO (G := gX11_init_17) (K := 175) (N := 2379) (ci := 7) (o := 176) tyX7 rfl hb hz (by decide) (by rw [hsz]; exact (by omega : t + 1 + 175 = t + 176)) hx17 (hd 49) rfl inX7 tyX7_ok cl_11_47 ins_7 ini_7 (by decide) (by rw [hR.1]; decide) (by rw [hR.2]; decide) ((put_at (by decide)).1.trans (zr17 176 (by decide)).1) ((put_at (by decide)).2.1.trans (zr17 176 (by decide)).2.1) ((put_at (by decide)).2.2.1.trans (zr17 176 (by decide)).2.2.1) dvX7 ?_
  have hx18 : Ok _ 1 none _ _ (wg w t gX11_init_18) (xat x 176 2385) := ok_grow (w' := wg w t gX11_init_18) hx17 rfl rfl rfl rfl (lay_wg hL hb (by decide +kernel)) (by rw [hR.1]; decide) (by rw [hR.2]; decide)
  refine r_dup (pc' := 103) hx18 (hd 50) rfl rfl ?_
  refine z_pre (G0 := gX11_init_17) (o := 176) (s := 3) (U0 := UZ_X7_init) hb rfl (by decide) ((zr17 176 (by decide)).1.trans rfl) ((zr17 176 (by decide)).2.1.trans rfl) ((zr17 176 (by decide)).2.2.1.trans rfl) ((zr17 176 (by decide)).2.2.2.trans rfl) ?_
  refine q_callIN (G0 := gX11_init_17) (K := 176) (N := 2385) (ci := 7) (o := 176) (As := []) (rest := [.ref (t + 176), .ref t]) rfl hb (by rw [hsz]; exact (by omega : t + 1 + 176 = t + 177)) hx18 (hd 51) mdI_X7_init rfl miI_X7_init mlI_11_49 (cX7_init (xl x) (wg w t gX11_init_17) (t + 176) (show Bel (wg w t gX11_init_17) (t + 176) from bel_wg hb) (Nat.le_trans hz (Nat.le_add_right _ _)) (lay_wg hL hb (by decide +kernel)) _) ⟨Nat.le_of_ble_eq_true rfl, Nat.le_of_ble_eq_true rfl⟩ (by rw [hR.1]; decide) (by rw [hR.2]; decide) rfl rfl (Nat.le_of_ble_eq_true rfl) ?_
  refine r_pcA (pc' := 106) rfl ?_
  refine z_post (by decide) ?_
  refine z_as (U' := (wr vX11_init_18 (qX11_init_18 t))) ((wrP ..).trans rfl) ?_
  have zr18 : Zr UZ_X11_init (wr vX11_init_18 (qX11_init_18 t)) 179 := Zr.cP zr17 (by decide) (by decide)
  have rn18 : Rny (wr vX11_init_18 (qX11_init_18 t)) [0, 10] := Rny.cP rn17 Rny.c
  have hx19 : Ok _ 1 none _ _ (wg w t gX11_init_19) (xat x 178 2436) := ok_grow (w' := wg w t gX11_init_19) hx18 rfl rfl rfl rfl (lay_wg hL hb (by decide +kernel)) (by rw [hR.1]; decide) (by rw [hR.2]; decide)
  refine z_putR (pc' := 109) (o := 176) (by decide) hx19 (hd 52) hin fw_11_50 (wat_new (G := gX11_init_19) (o := 0) (kd := 40 + 11) (n := 0) (by decide +kernel)) rfl (by decide) rfl rfl rfl ?_
  refine z_as (U' := (wr vX11_init_19 (qX11_init_19 t))) ((wrR ..).trans rfl) ?_
  have zr19 : Zr UZ_X11_init (wr vX11_init_19 (qX11_init_19 t)) 179 := Zr.cR zr18 (by decide)
  have rn19 : Rny (wr vX11_init_19 (qX11_init_19 t)) [0, 10] := Rny.cR rn18 (by decide)
  refine r_aload_n (pc' := 110) hx19 (hd 53) rfl 0 rfl rfl ?_
  refine q_newO (G := gX11_init_19) (K := 178) (N := 2436) (ci := 10) (o := 179) tyX10 rfl hb hz (by decide) (by rw [hsz]; exact (by omega : t + 1 + 178 = t + 179)) hx19 (hd 54) rfl inX10 tyX10_ok cl_11_54 ins_10 ini_10 (by decide) (by rw [hR.1]; decide) (by rw [hR.2]; decide) ((put_at (by decide)).1.trans (zr19 179 (by decide)).1) ((put_at (by decide)).2.1.trans (zr19 179 (by decide)).2.1) ((put_at (by decide)).2.2.1.trans (zr19 179 (by decide)).2.2.1) dvX10 ?_
  have hx20 : Ok _ 1 none _ _ (wg w t gX11_init_20) (xat x 179 2445) := ok_grow (w' := wg w t gX11_init_20) hx19 rfl rfl rfl rfl (lay_wg hL hb (by decide +kernel)) (by rw [hR.1]; decide) (by rw [hR.2]; decide)
  refine r_dup (pc' := 114) hx20 (hd 55) rfl rfl ?_
  refine z_pre (G0 := gX11_init_19) (o := 179) (s := 12) (U0 := UZ_X10_init) hb rfl (by decide) ((zr19 179 (by decide)).1.trans rfl) ((zr19 179 (by decide)).2.1.trans rfl) ((zr19 179 (by decide)).2.2.1.trans rfl) ((zr19 179 (by decide)).2.2.2.trans rfl) ?_
  refine q_callIN (G0 := gX11_init_19) (K := 179) (N := 2445) (ci := 10) (o := 179) (As := []) (rest := [.ref (t + 179), .ref t]) rfl hb (by rw [hsz]; exact (by omega : t + 1 + 179 = t + 180)) hx20 (hd 56) mdI_X10_init rfl miI_X10_init mlI_11_56 (cX10_init (xl x) (wg w t gX11_init_19) (t + 179) (show Bel (wg w t gX11_init_19) (t + 179) from bel_wg hb) (Nat.le_trans hz (Nat.le_add_right _ _)) (lay_wg hL hb (by decide +kernel)) _) ⟨Nat.le_of_ble_eq_true rfl, Nat.le_of_ble_eq_true rfl⟩ (by rw [hR.1]; decide) (by rw [hR.2]; decide) rfl rfl (Nat.le_of_ble_eq_true rfl) ?_
  refine r_pcA (pc' := 117) rfl ?_
  refine z_post (by decide) ?_
  refine z_as (U' := (wr vX11_init_20 (qX11_init_20 t))) ((wrP ..).trans rfl) ?_
  have zr20 : Zr UZ_X11_init (wr vX11_init_20 (qX11_init_20 t)) 191 := Zr.cP zr19 (by decide) (by decide)
  have rn20 : Rny (wr vX11_init_20 (qX11_init_20 t)) [0, 10] := Rny.cP rn19 Rny.c
  have hx21 : Ok _ 1 none _ _ (wg w t gX11_init_21) (xat x 190 2794) := ok_grow (w' := wg w t gX11_init_21) hx20 rfl rfl rfl rfl (lay_wg hL hb (by decide +kernel)) (by rw [hR.1]; decide) (by rw [hR.2]; decide)
  refine z_putR (pc' := 120) (o := 179) (by decide) hx21 (hd 57) hin fw_11_57 (wat_new (G := gX11_init_21) (o := 0) (kd := 40 + 11) (n := 0) (by decide +kernel)) rfl (by decide) rfl rfl rfl ?_
  refine z_as (U' := (wr vX11_init_21 (qX11_init_21 t))) ((wrR ..).trans rfl) ?_
  have zr21 : Zr UZ_X11_init (wr vX11_init_21 (qX11_init_21 t)) 191 := Zr.cR zr20 (by decide)
  have rn21 : Rny (wr vX11_init_21 (qX11_init_21 t)) [0, 10] := Rny.cR rn20 (by decide)
  refine r_aload_n (pc' := 121) hx21 (hd 58) rfl 0 rfl rfl ?_
  refine q_newO (G := gX11_init_21) (K := 190) (N := 2794) (ci := 10) (o := 191) tyX10 rfl hb hz (by decide) (by rw [hsz]; exact (by omega : t + 1 + 190 = t + 191)) hx21 (hd 59) rfl inX10 tyX10_ok cl_11_54 ins_10 ini_10 (by decide) (by rw [hR.1]; decide) (by rw [hR.2]; decide) ((put_at (by decide)).1.trans (zr21 191 (by decide)).1) ((put_at (by decide)).2.1.trans (zr21 191 (by decide)).2.1) ((put_at (by decide)).2.2.1.trans (zr21 191 (by decide)).2.2.1) dvX10 ?_
  have hx22 : Ok _ 1 none _ _ (wg w t gX11_init_22) (xat x 191 2803) := ok_grow (w' := wg w t gX11_init_22) hx21 rfl rfl rfl rfl (lay_wg hL hb (by decide +kernel)) (by rw [hR.1]; decide) (by rw [hR.2]; decide)
  refine r_dup (pc' := 125) hx22 (hd 60) rfl rfl ?_
  refine z_pre (G0 := gX11_init_21) (o := 191) (s := 12) (U0 := UZ_X10_init) hb rfl (by decide) ((zr21 191 (by decide)).1.trans rfl) ((zr21 191 (by decide)).2.1.trans rfl) ((zr21 191 (by decide)).2.2.1.trans rfl) ((zr21 191 (by decide)).2.2.2.trans rfl) ?_
  refine q_callIN (G0 := gX11_init_21) (K := 191) (N := 2803) (ci := 10) (o := 191) (As := []) (rest := [.ref (t + 191), .ref t]) rfl hb (by rw [hsz]; exact (by omega : t + 1 + 191 = t + 192)) hx22 (hd 61) mdI_X10_init rfl miI_X10_init mlI_11_56 (cX10_init (xl x) (wg w t gX11_init_21) (t + 191) (show Bel (wg w t gX11_init_21) (t + 191) from bel_wg hb) (Nat.le_trans hz (Nat.le_add_right _ _)) (lay_wg hL hb (by decide +kernel)) _) ⟨Nat.le_of_ble_eq_true rfl, Nat.le_of_ble_eq_true rfl⟩ (by rw [hR.1]; decide) (by rw [hR.2]; decide) rfl rfl (Nat.le_of_ble_eq_true rfl) ?_
  refine r_pcA (pc' := 128) rfl ?_
  refine z_post (by decide) ?_
  refine z_as (U' := (wr vX11_init_22 (qX11_init_22 t))) ((wrP ..).trans rfl) ?_
  have zr22 : Zr UZ_X11_init (wr vX11_init_22 (qX11_init_22 t)) 203 := Zr.cP zr21 (by decide) (by decide)
  have rn22 : Rny (wr vX11_init_22 (qX11_init_22 t)) [0, 10] := Rny.cP rn21 Rny.c
  have hx23 : Ok _ 1 none _ _ (wg w t gX11_init_23) (xat x 202 3152) := ok_grow (w' := wg w t gX11_init_23) hx22 rfl rfl rfl rfl (lay_wg hL hb (by decide +kernel)) (by rw [hR.1]; decide) (by rw [hR.2]; decide)
  refine z_putR (pc' := 131) (o := 191) (by decide) hx23 (hd 62) hin fw_11_61 (wat_new (G := gX11_init_23) (o := 0) (kd := 40 + 11) (n := 0) (by decide +kernel)) rfl (by decide) rfl rfl rfl ?_
  refine z_as (U' := (wr vX11_init_23 (qX11_init_23 t))) ((wrR ..).trans rfl) ?_
  have zr23 : Zr UZ_X11_init (wr vX11_init_23 (qX11_init_23 t)) 203 := Zr.cR zr22 (by decide)
  have rn23 : Rny (wr vX11_init_23 (qX11_init_23 t)) [0, 10] := Rny.cR rn22 (by decide)
  refine r_aload_n (pc' := 132) hx23 (hd 63) rfl 0 rfl rfl ?_
  refine q_newO (G := gX11_init_23) (K := 202) (N := 3152) (ci := 2) (o := 203) tyX2 rfl hb hz (by decide) (by rw [hsz]; exact (by omega : t + 1 + 202 = t + 203)) hx23 (hd 64) rfl inX2 tyX2_ok cl_11_64 ins_2 ini_2 (by decide) (by rw [hR.1]; decide) (by rw [hR.2]; decide) ((put_at (by decide)).1.trans (zr23 203 (by decide)).1) ((put_at (by decide)).2.1.trans (zr23 203 (by decide)).2.1) ((put_at (by decide)).2.2.1.trans (zr23 203 (by decide)).2.2.1) dvX2 ?_
  have hx24 : Ok _ 1 none _ _ (wg w t gX11_init_24) (xat x 203 3162) := ok_grow (w' := wg w t gX11_init_24) hx23 rfl rfl rfl rfl (lay_wg hL hb (by decide +kernel)) (by rw [hR.1]; decide) (by rw [hR.2]; decide)
  refine r_dup (pc' := 136) hx24 (hd 65) rfl rfl ?_
  refine z_pre (G0 := gX11_init_23) (o := 203) (s := 6) (U0 := UZ_X2_init) hb rfl (by decide) ((zr23 203 (by decide)).1.trans rfl) ((zr23 203 (by decide)).2.1.trans rfl) ((zr23 203 (by decide)).2.2.1.trans rfl) ((zr23 203 (by decide)).2.2.2.trans rfl) ?_
  refine q_callIN (G0 := gX11_init_23) (K := 203) (N := 3162) (ci := 2) (o := 203) (As := []) (rest := [.ref (t + 203), .ref t]) rfl hb (by rw [hsz]; exact (by omega : t + 1 + 203 = t + 204)) hx24 (hd 66) mdI_X2_init rfl miI_X2_init mlI_11_66 (cX2_init (xl x) (wg w t gX11_init_23) (t + 203) (show Bel (wg w t gX11_init_23) (t + 203) from bel_wg hb) (Nat.le_trans hz (Nat.le_add_right _ _)) (lay_wg hL hb (by decide +kernel)) _) ⟨Nat.le_of_ble_eq_true rfl, Nat.le_of_ble_eq_true rfl⟩ (by rw [hR.1]; decide) (by rw [hR.2]; decide) rfl rfl (Nat.le_of_ble_eq_true rfl) ?_
  refine r_pcA (pc' := 139) rfl ?_
  refine z_post (by decide) ?_
  refine z_as (U' := (wr vX11_init_24 (qX11_init_24 t))) ((wrP ..).trans rfl) ?_
  have zr24 : Zr UZ_X11_init (wr vX11_init_24 (qX11_init_24 t)) 209 := Zr.cP zr23 (by decide) (by decide)
  have rn24 : Rny (wr vX11_init_24 (qX11_init_24 t)) [0, 10] := Rny.cP rn23 Rny.c
  have hx25 : Ok _ 1 none _ _ (wg w t gX11_init_25) (xat x 208 3237) := ok_grow (w' := wg w t gX11_init_25) hx24 rfl rfl rfl rfl (lay_wg hL hb (by decide +kernel)) (by rw [hR.1]; decide) (by rw [hR.2]; decide)
  refine z_putR (pc' := 142) (o := 203) (by decide) hx25 (hd 67) hin fw_11_67 (wat_new (G := gX11_init_25) (o := 0) (kd := 40 + 11) (n := 0) (by decide +kernel)) rfl (by decide) rfl rfl rfl ?_
  refine z_as (U' := (wr vX11_init_25 (qX11_init_25 t))) ((wrR ..).trans rfl) ?_
  have zr25 : Zr UZ_X11_init (wr vX11_init_25 (qX11_init_25 t)) 209 := Zr.cR zr24 (by decide)
  have rn25 : Rny (wr vX11_init_25 (qX11_init_25 t)) [0, 10] := Rny.cR rn24 (by decide)
  refine r_aload_n (pc' := 143) hx25 (hd 68) rfl 0 rfl rfl ?_
  refine q_newO (G := gX11_init_25) (K := 208) (N := 3237) (ci := 3) (o := 209) tyX3 rfl hb hz (by decide) (by rw [hsz]; exact (by omega : t + 1 + 208 = t + 209)) hx25 (hd 69) rfl inX3 tyX3_ok cl_11_71 ins_3 ini_3 (by decide) (by rw [hR.1]; decide) (by rw [hR.2]; decide) ((put_at (by decide)).1.trans (zr25 209 (by decide)).1) ((put_at (by decide)).2.1.trans (zr25 209 (by decide)).2.1) ((put_at (by decide)).2.2.1.trans (zr25 209 (by decide)).2.2.1) dvX3 ?_
  have hx26 : Ok _ 1 none _ _ (wg w t gX11_init_26) (xat x 209 3241) := ok_grow (w' := wg w t gX11_init_26) hx25 rfl rfl rfl rfl (lay_wg hL hb (by decide +kernel)) (by rw [hR.1]; decide) (by rw [hR.2]; decide)
  refine r_dup (pc' := 147) hx26 (hd 70) rfl rfl ?_
  refine z_pre (G0 := gX11_init_25) (o := 209) (s := 19) (U0 := UZ_X3_init) hb rfl (by decide) ((zr25 209 (by decide)).1.trans rfl) ((zr25 209 (by decide)).2.1.trans rfl) ((zr25 209 (by decide)).2.2.1.trans rfl) ((zr25 209 (by decide)).2.2.2.trans rfl) ?_
  refine q_callIN (G0 := gX11_init_25) (K := 209) (N := 3241) (ci := 3) (o := 209) (As := []) (rest := [.ref (t + 209), .ref t]) rfl hb (by rw [hsz]; exact (by omega : t + 1 + 209 = t + 210)) hx26 (hd 71) mdI_X3_init rfl miI_X3_init mlI_11_73 (cX3_init (xl x) (wg w t gX11_init_25) (t + 209) (show Bel (wg w t gX11_init_25) (t + 209) from bel_wg hb) (Nat.le_trans hz (Nat.le_add_right _ _)) (lay_wg hL hb (by decide +kernel)) _) ⟨Nat.le_of_ble_eq_true rfl, Nat.le_of_ble_eq_true rfl⟩ (by rw [hR.1]; decide) (by rw [hR.2]; decide) rfl rfl (Nat.le_of_ble_eq_true rfl) ?_
  refine r_pcA (pc' := 150) rfl ?_
  refine z_post (by decide) ?_
  refine z_as (U' := (wr vX11_init_26 (qX11_init_26 t))) ((wrP ..).trans rfl) ?_
  have zr26 : Zr UZ_X11_init (wr vX11_init_26 (qX11_init_26 t)) 228 := Zr.cP zr25 (by decide) (by decide)
  have rn26 : Rny (wr vX11_init_26 (qX11_init_26 t)) [0, 10] := Rny.cP rn25 Rny.c
  have hx27 : Ok _ 1 none _ _ (wg w t gX11_init_27) (xat x 227 4066) := ok_grow (w' := wg w t gX11_init_27) hx26 rfl rfl rfl rfl (lay_wg hL hb (by decide +kernel)) (by rw [hR.1]; decide) (by rw [hR.2]; decide)
  refine z_putR (pc' := 153) (o := 209) (by decide) hx27 (hd 72) hin fw_11_74 (wat_new (G := gX11_init_27) (o := 0) (kd := 40 + 11) (n := 0) (by decide +kernel)) rfl (by decide) rfl rfl rfl ?_
  refine z_as (U' := (wr vX11_init_27 (qX11_init_27 t))) ((wrR ..).trans rfl) ?_
  have zr27 : Zr UZ_X11_init (wr vX11_init_27 (qX11_init_27 t)) 228 := Zr.cR zr26 (by decide)
  have rn27 : Rny (wr vX11_init_27 (qX11_init_27 t)) [0, 10] := Rny.cR rn26 (by decide)
  refine r_aload_n (pc' := 154) hx27 (hd 73) rfl 0 rfl rfl ?_
  refine q_newO (G := gX11_init_27) (K := 227) (N := 4066) (ci := 0) (o := 228) tyX0 rfl hb hz (by decide) (by rw [hsz]; exact (by omega : t + 1 + 227 = t + 228)) hx27 (hd 74) rfl inX0 tyX0_ok cl_11_78 ins_0 ini_0 (by decide) (by rw [hR.1]; decide) (by rw [hR.2]; decide) ((put_at (by decide)).1.trans (zr27 228 (by decide)).1) ((put_at (by decide)).2.1.trans (zr27 228 (by decide)).2.1) ((put_at (by decide)).2.2.1.trans (zr27 228 (by decide)).2.2.1) dvX0 ?_
  have hx28 : Ok _ 1 none _ _ (wg w t gX11_init_28) (xat x 228 4074) := ok_grow (w' := wg w t gX11_init_28) hx27 rfl rfl rfl rfl (lay_wg hL hb (by decide +kernel)) (by rw [hR.1]; decide) (by rw [hR.2]; decide)
  refine r_dup (pc' := 158) hx28 (hd 75) rfl rfl ?_
  refine z_pre (G0 := gX11_init_27) (o := 228) (s := 9) (U0 := UZ_X0_init) hb rfl (by decide) ((zr27 228 (by decide)).1.trans rfl) ((zr27 228 (by decide)).2.1.trans rfl) ((zr27 228 (by decide)).2.2.1.trans rfl) ((zr27 228 (by decide)).2.2.2.trans rfl) ?_
  refine q_callIN (G0 := gX11_init_27) (K := 228) (N := 4074) (ci := 0) (o := 228) (As := []) (rest := [.ref (t + 228), .ref t]) rfl hb (by rw [hsz]; exact (by omega : t + 1 + 228 = t + 229)) hx28 (hd 76) mdI_X0_init rfl miI_X0_init mlI_11_80 (cX0_init (xl x) (wg w t gX11_init_27) (t + 228) (show Bel (wg w t gX11_init_27) (t + 228) from bel_wg hb) (Nat.le_trans hz (Nat.le_add_right _ _)) (lay_wg hL hb (by decide +kernel)) _) ⟨Nat.le_of_ble_eq_true rfl, Nat.le_of_ble_eq_true rfl⟩ (by rw [hR.1]; decide) (by rw [hR.2]; decide) rfl rfl (Nat.le_of_ble_eq_true rfl) ?_
  refine r_pcA (pc' := 161) rfl ?_
  refine z_post (by decide) ?_
  refine z_as (U' := (wr vX11_init_28 (qX11_init_28 t))) ((wrP ..).trans rfl) ?_
  have zr28 : Zr UZ_X11_init (wr vX11_init_28 (qX11_init_28 t)) 237 := Zr.cP zr27 (by decide) (by decide)
  have rn28 : Rny (wr vX11_init_28 (qX11_init_28 t)) [0, 10] := Rny.cP rn27 Rny.c
  have hx29 : Ok _ 1 none _ _ (wg w t gX11_init_29) (xat x 236 4236) := ok_grow (w' := wg w t gX11_init_29) hx28 rfl rfl rfl rfl (lay_wg hL hb (by decide +kernel)) (by rw [hR.1]; decide) (by rw [hR.2]; decide)
  refine z_putR (pc' := 164) (o := 228) (by decide) hx29 (hd 77) hin fw_11_81 (wat_new (G := gX11_init_29) (o := 0) (kd := 40 + 11) (n := 0) (by decide +kernel)) rfl (by decide) rfl rfl rfl ?_
  refine z_as (U' := (wr vX11_init_29 (qX11_init_29 t))) ((wrR ..).trans rfl) ?_
  have zr29 : Zr UZ_X11_init (wr vX11_init_29 (qX11_init_29 t)) 237 := Zr.cR zr28 (by decide)
  have rn29 : Rny (wr vX11_init_29 (qX11_init_29 t)) [0, 10] := Rny.cR rn28 (by decide)
  refine r_aload_n (pc' := 165) hx29 (hd 78) rfl 0 rfl rfl ?_
  refine q_newO (G := gX11_init_29) (K := 236) (N := 4236) (ci := 1) (o := 237) tyX1 rfl hb hz (by decide) (by rw [hsz]; exact (by omega : t + 1 + 236 = t + 237)) hx29 (hd 79) rfl inX1 tyX1_ok cl_11_85 ins_1 ini_1 (by decide) (by rw [hR.1]; decide) (by rw [hR.2]; decide) ((put_at (by decide)).1.trans (zr29 237 (by decide)).1) ((put_at (by decide)).2.1.trans (zr29 237 (by decide)).2.1) ((put_at (by decide)).2.2.1.trans (zr29 237 (by decide)).2.2.1) dvX1 ?_
  have hx30 : Ok _ 1 none _ _ (wg w t gX11_init_30) (xat x 237 4238) := ok_grow (w' := wg w t gX11_init_30) hx29 rfl rfl rfl rfl (lay_wg hL hb (by decide +kernel)) (by rw [hR.1]; decide) (by rw [hR.2]; decide)
  refine r_dup (pc' := 169) hx30 (hd 80) rfl rfl ?_
  refine z_pre (G0 := gX11_init_29) (o := 237) (s := 38) (U0 := UZ_X1_init) hb rfl (by decide) ((zr29 237 (by decide)).1.trans rfl) ((zr29 237 (by decide)).2.1.trans rfl) ((zr29 237 (by decide)).2.2.1.trans rfl) ((zr29 237 (by decide)).2.2.2.trans rfl) ?_
  refine q_callI (G0 := gX11_init_29) (K := 237) (N := 4238) (ci := 1) (o := 237) (As := []) (rest := [.ref (t + 237), .ref t]) rfl hb (by rw [hsz]; exact (by omega : t + 1 + 237 = t + 238)) hx30 (hd 81) mdI_X1_init rfl miI_X1_init mlI_11_87 (cX1_init (xl x) (wg w t gX11_init_29) (t + 237) (show Bel (wg w t gX11_init_29) (t + 237) from bel_wg hb) (Nat.le_trans hz (Nat.le_add_right _ _)) (lay_wg hL hb (by decide +kernel)) _) ⟨Nat.le_of_ble_eq_true rfl, Nat.le_of_ble_eq_true rfl⟩ (by rw [hR.1]; decide) (by rw [hR.2]; decide) rfl rfl (Nat.le_of_ble_eq_true rfl) ?_
  refine r_pcA (pc' := 172) rfl ?_
  refine z_post (by decide) ?_
  refine z_as (U' := (wr vX11_init_30 (qX11_init_30 t))) ((wrP ..).trans rfl) ?_
  have zr30 : Zr UZ_X11_init (wr vX11_init_30 (qX11_init_30 t)) 275 := Zr.cP zr29 (by decide) (by decide)
  have rn30 : Rny (wr vX11_init_30 (qX11_init_30 t)) [0, 10] := Rny.cP rn29 Rny.c
  have hx31 : Ok _ 1 none _ _ (wg w t gX11_init_31) (xat x 274 4472) := ok_grow (w' := wg w t gX11_init_31) hx30 rfl rfl rfl rfl (lay_wg hL hb (by decide +kernel)) (by rw [hR.1]; decide) (by rw [hR.2]; decide)
  refine z_putR (pc' := 175) (o := 237) (by decide) hx31 (hd 82) hin fw_11_88 (wat_new (G := gX11_init_31) (o := 0) (kd := 40 + 11) (n := 0) (by decide +kernel)) rfl (by decide) rfl rfl rfl ?_
  refine z_as (U' := (wr vX11_init_31 (qX11_init_31 t))) ((wrR ..).trans rfl) ?_
  have zr31 : Zr UZ_X11_init (wr vX11_init_31 (qX11_init_31 t)) 275 := Zr.cR zr30 (by decide)
  have rn31 : Rny (wr vX11_init_31 (qX11_init_31 t)) [0, 10] := Rny.cR rn30 (by decide)
  refine r_aload_n (pc' := 176) hx31 (hd 83) rfl 0 rfl rfl ?_
  refine r_gets (pc' := 179) (i := 2) hx31 (hd 84) rfl gsI_11_92 rfl ?_
  refine r_slen (pc' := 180) (i := 2) (v := 5) hx31 (hd 85) rfl (by decide) rfl ?_
  refine q_newa (gn := 5) (G := gX11_init_31) (K := 274) (N := 4472) (kd := 20) (c := 0) (n := 5) (o := 275) (ty := .int) (e9 := .inl (fun _ => 0)) rfl hb hz (by decide) (by rw [hsz]; exact (by omega : t + 1 + 274 = t + 275)) hx31 (hd 86) rfl ar_int rfl (fun _ _ h => h) (by decide) (by decide) (by decide) (by rw [hR.1]; decide) (by rw [hR.2]; decide) (fun _ => rfl) (ce_int (by decide) (zr31 275 (by decide)).1) (nr_put (by decide) (zr31 275 (by decide)).2.2.1) ?_
  have hx32 : Ok _ 1 none _ _ (wg w t gX11_init_32) (xat x 275 4477) := ok_grow (w' := wg w t gX11_init_32) hx31 rfl rfl rfl rfl (lay_wg hL hb (by decide +kernel)) (by rw [hR.1]; decide) (by rw [hR.2]; decide)
  refine z_putR (pc' := 185) (o := 275) (by decide) hx32 (hd 87) hin fw_11_96 (wat_new (G := gX11_init_32) (o := 0) (kd := 40 + 11) (n := 0) (by decide +kernel)) rfl (by decide) rfl rfl rfl ?_
  refine z_as (U' := (wr vX11_init_32 (qX11_init_32 t))) ((wrR ..).trans rfl) ?_
  have zr32 : Zr UZ_X11_init (wr vX11_init_32 (qX11_init_32 t)) 276 := Zr.cR zr31 (by decide)
  have rn32 : Rny (wr vX11_init_32 (qX11_init_32 t)) [0, 10] := Rny.cR rn31 (by decide)
  refine r_aload_n (pc' := 186) hx32 (hd 88) rfl 0 rfl rfl ?_
  refine r_iconst (pc' := 187) (v := 2) hx32 (hd 89) (by decide) rfl ?_
  refine q_newa (gn := 2) (G := gX11_init_32) (K := 275) (N := 4477) (kd := 20) (c := 0) (n := 2) (o := 276) (ty := .int) (e9 := .inl (fun _ => 0)) rfl hb hz (by decide) (by rw [hsz]; exact (by omega : t + 1 + 275 = t + 276)) hx32 (hd 90) rfl ar_int rfl (fun _ _ h => h) (by decide) (by decide) (by decide) (by rw [hR.1]; decide) (by rw [hR.2]; decide) (fun _ => rfl) (ce_int (by decide) (zr32 276 (by decide)).1) (nr_put (by decide) (zr32 276 (by decide)).2.2.1) ?_
  have hx33 : Ok _ 1 none _ _ (wg w t gX11_init_33) (xat x 276 4479) := ok_grow (w' := wg w t gX11_init_33) hx32 rfl rfl rfl rfl (lay_wg hL hb (by decide +kernel)) (by rw [hR.1]; decide) (by rw [hR.2]; decide)
  refine r_dup (pc' := 190) hx33 (hd 91) rfl rfl ?_
  refine r_iconst (pc' := 191) (v := 0) hx33 (hd 92) (by decide) rfl ?_
  refine r_iconst (pc' := 192) (v := (-1)) hx33 (hd 93) (by decide) rfl ?_
  refine z_iast (pc' := 193) (k := 0) (by decide) hx33 (hd 94) (wat_new (G := gX11_init_33) (o := 276) (kd := 20) (n := 2) (by decide +kernel)) (by decide) (by decide) rfl ?_
  refine z_as (U' := (wr vX11_init_33 (qX11_init_33 t))) ((wrI ..).trans rfl) ?_
  have zr33 : Zr UZ_X11_init (wr vX11_init_33 (qX11_init_33 t)) 277 := Zr.cI zr32 (by decide)
  have rn33 : Rny (wr vX11_init_33 (qX11_init_33 t)) [0, 10] := Rny.cI rn32
  refine r_dup (pc' := 194) hx33 (hd 95) rfl rfl ?_
  refine r_iconst (pc' := 195) (v := 1) hx33 (hd 96) (by decide) rfl ?_
  refine r_iconst (pc' := 196) (v := (-1)) hx33 (hd 97) (by decide) rfl ?_
  refine z_iast (pc' := 197) (k := 1) (by decide) hx33 (hd 98) (wat_new (G := gX11_init_33) (o := 276) (kd := 20) (n := 2) (by decide +kernel)) (by decide) (by decide) rfl ?_
  refine z_as (U' := (wr vX11_init_34 (qX11_init_34 t))) ((wrI ..).trans rfl) ?_
  have zr34 : Zr UZ_X11_init (wr vX11_init_34 (qX11_init_34 t)) 277 := Zr.cI zr33 (by decide)
  have rn34 : Rny (wr vX11_init_34 (qX11_init_34 t)) [0, 10] := Rny.cI rn33
  refine z_putR (pc' := 200) (o := 276) (by decide) hx33 (hd 99) hin fw_11_99 (wat_new (G := gX11_init_33) (o := 0) (kd := 40 + 11) (n := 0) (by decide +kernel)) rfl (by decide) rfl rfl rfl ?_
  refine z_as (U' := (wr vX11_init_35 (qX11_init_35 t))) ((wrR ..).trans rfl) ?_
  have zr35 : Zr UZ_X11_init (wr vX11_init_35 (qX11_init_35 t)) 277 := Zr.cR zr34 (by decide)
  have rn35 : Rny (wr vX11_init_35 (qX11_init_35 t)) [0, 10] := Rny.cR rn34 (by decide)
  refine r_aload_n (pc' := 201) hx33 (hd 100) rfl 0 rfl rfl ?_
  refine r_iconst (pc' := 202) (v := (-1)) hx33 (hd 101) (by decide) rfl ?_
  refine z_putI (pc' := 205) (by decide) hx33 (hd 102) hin fw_11_102 (wat_new (G := gX11_init_33) (o := 0) (kd := 40 + 11) (n := 0) (by decide +kernel)) rfl (by decide) rfl rfl rfl ?_
  refine z_as (U' := (wr vX11_init_36 (qX11_init_36 t))) ((wrI ..).trans rfl) ?_
  have zr36 : Zr UZ_X11_init (wr vX11_init_36 (qX11_init_36 t)) 277 := Zr.cI zr35 (by decide)
  have rn36 : Rny (wr vX11_init_36 (qX11_init_36 t)) [0, 10] := Rny.cI rn35
  refine z_done (G := gX11_init_33) (G' := G_X11_init) (l := [0, 10]) (T := T_X11_init) (ci := 11) hb rfl rfl rn36 (by decide +kernel) (by decide +kernel) (fun o ho H => by
    have e9 : o = 0 ∨ o = 10 := by simpa using ho
    rcases e9 with e9 | e9
    · subst e9
      exact va_done (S := 277) (ci := 11) (by decide) (by decide) (fun k hk => by
      match k, hk with
      | 0, _ => first | exact trivial | exact rfl
      | 1, _ => first | exact trivial | exact rfl
      | 2, _ => first | exact trivial | exact rfl
      | 3, _ => first | exact trivial | exact rfl
      | 4, _ => first | exact trivial | exact rfl
      | 5, _ => first | exact trivial | exact rfl
      | 6, _ => first | exact trivial | exact rfl
      | 7, _ => first | exact trivial | exact rfl
      | 8, _ => first | exact trivial | exact rfl
      | 9, _ => first | exact trivial | exact rfl
      | 10, _ => first | exact trivial | exact rfl
      | 11, _ => first | exact trivial | exact rfl
      | 12, _ => first | exact trivial | exact rfl
      | 13, _ => first | exact trivial | exact rfl
      | 14, _ => first | exact trivial | exact rfl
      | 15, _ => first | exact trivial | exact rfl
      | 16, _ => first | exact trivial | exact rfl
      | 17, _ => first | exact trivial | exact rfl
      | 18, _ => first | exact trivial | exact rfl
      | n + 19, h => exact absurd h (by rw [show nf 11 = 19 from rfl]; omega))
    · subst e9
      exact va_doneA (c := 4) (by decide) rfl (fun i hi => by
        match i, hi with
        | 0, _ => exact rfl
        | 1, _ => exact rfl
        | n + 2, h => exact absurd h (by show ¬ (n + 2 < 2); omega))) rfl ?_
  exact q_vretI (ok_grow (w' := wg w t G_X11_init) hx33 rfl rfl rfl rfl (lay_wg hL hb (by decide +kernel)) (by rw [hR.1]; decide) (by rw [hR.2]; decide)) (hd 103)
