/-! ===== the start: classes, statics, texts, the two objects ===== -/
theorem st_cls {s : State} {args : Array Value} (hU : ∀ q ∈ UW, q.before args s = true) (k : Nat) : ∃ d : ClassId × (Nat → Nat), ∀ q, cls[k]? = some q → u_Kn s q.1 q.2.1 q.2.2 d.1 d.2 := by
  match k with
  | 0 => obtain ⟨a, b, h⟩ := u_known hU inX0 (hU _ ins_0); exact ⟨(a, b), fun q hq => by cases hq; exact h⟩
  | 1 => obtain ⟨a, b, h⟩ := u_known hU inX1 (hU _ ins_1); exact ⟨(a, b), fun q hq => by cases hq; exact h⟩
  | 2 => obtain ⟨a, b, h⟩ := u_known hU inX2 (hU _ ins_2); exact ⟨(a, b), fun q hq => by cases hq; exact h⟩
  | 3 => obtain ⟨a, b, h⟩ := u_known hU inX3 (hU _ ins_3); exact ⟨(a, b), fun q hq => by cases hq; exact h⟩
  | 4 => obtain ⟨a, b, h⟩ := u_known hU inX4 (hU _ ins_4); exact ⟨(a, b), fun q hq => by cases hq; exact h⟩
  | 5 => obtain ⟨a, b, h⟩ := u_known hU inX5 (hU _ ins_5); exact ⟨(a, b), fun q hq => by cases hq; exact h⟩
  | 6 => obtain ⟨a, b, h⟩ := u_known hU inX6 (hU _ ins_6); exact ⟨(a, b), fun q hq => by cases hq; exact h⟩
  | 7 => obtain ⟨a, b, h⟩ := u_known hU inX7 (hU _ ins_7); exact ⟨(a, b), fun q hq => by cases hq; exact h⟩
  | 8 => obtain ⟨a, b, h⟩ := u_known hU inX8 (hU _ ins_8); exact ⟨(a, b), fun q hq => by cases hq; exact h⟩
  | 9 => obtain ⟨a, b, h⟩ := u_known hU inX9 (hU _ ins_9); exact ⟨(a, b), fun q hq => by cases hq; exact h⟩
  | 10 => obtain ⟨a, b, h⟩ := u_known hU inX10 (hU _ ins_10); exact ⟨(a, b), fun q hq => by cases hq; exact h⟩
  | 11 => obtain ⟨a, b, h⟩ := u_known hU inX11 (hU _ ins_11); exact ⟨(a, b), fun q hq => by cases hq; exact h⟩
  | 12 => obtain ⟨a, b, h⟩ := u_known hU inX12 (hU _ ins_12); exact ⟨(a, b), fun q hq => by cases hq; exact h⟩
  | k + 13 => obtain ⟨a, b, h⟩ := u_known hU inX0 (hU _ ins_0); exact ⟨(a, b), fun q hq => by cases hq⟩
theorem st_arr {s : State} {args : Array Value} {ty : FieldType} (hr : ∀ (U : State) (c : ClassId), va_RA U c ty = (U.vm.findClass ("[" ++ ty.toString) = some c)) (h : (Cond.arrayClass ty).before args s = true) : ∃ c, ArrOfT s c ty ∧ va_RA s c ty := by
  obtain ⟨c, k, comp, h1, h2, h3⟩ := Cond.arrayClass_spec h
  exact ⟨c, fun N z => ⟨(fun k h => by cases h), k, h2, comp, h3⟩, by rw [hr]; exact h1⟩
theorem st_obj {s : State} {args : Array Value} {C : String} (h : (Cond.arrayOver (.object C)).before args s = true) : ∃ c, ArrOfT s c (.object C) ∧ va_RA s c (.object C) := by
  obtain ⟨comp, c, k, h1, -, h2, h3, h4⟩ := Cond.arrayOver_spec h
  exact ⟨c, fun N z => ⟨(fun k h => by cases h), k, h2, comp, h3⟩, ⟨k, comp, h2, h3, h1, h4⟩⟩
theorem st_aa {s : State} {args : Array Value} {ty : FieldType} (h : (Cond.arrayOver (.array ty)).before args s = true) : ∃ c, ArrOfT s c (.array ty) ∧ va_RA s c (.array ty) := by
  obtain ⟨comp, c, k, h1, h2, h3, h4⟩ := Cond.arrayOver_specA h
  exact ⟨c, fun N z => ⟨(fun k h => by cases h), k, h2, comp, h3⟩, h4⟩
theorem st_tys {s : State} {args : Array Value} (hU : ∀ q ∈ UW, q.before args s = true) (k : Nat) : ∃ c : ClassId, ∀ ty, ([.int, .long, .boolean, .object "CribbageRoom$Table", .object "CribbageRoom$State", .array .int, .array .long, .object "CribbageRoom$Text"] : List FieldType)[k]? = some ty → ArrOfT s c ty ∧ va_RA s c ty := by
  match k with
  | 0 => obtain ⟨c, h⟩ := st_arr (fun _ _ => rfl) (hU _ ar_int); exact ⟨c, fun ty hq => by cases hq; exact h⟩
  | 1 => obtain ⟨c, h⟩ := st_arr (fun _ _ => rfl) (hU _ ar_long); exact ⟨c, fun ty hq => by cases hq; exact h⟩
  | 2 => obtain ⟨c, h⟩ := st_arr (fun _ _ => rfl) (hU _ ar_boolean); exact ⟨c, fun ty hq => by cases hq; exact h⟩
  | 3 => obtain ⟨c, h⟩ := st_obj (hU _ ao_Table); exact ⟨c, fun ty hq => by cases hq; exact h⟩
  | 4 => obtain ⟨c, h⟩ := st_obj (hU _ ao_State); exact ⟨c, fun ty hq => by cases hq; exact h⟩
  | 5 => obtain ⟨c, h⟩ := st_aa (hU _ ao_I); exact ⟨c, fun ty hq => by cases hq; exact h⟩
  | 6 => obtain ⟨c, h⟩ := st_aa (hU _ ao_J); exact ⟨c, fun ty hq => by cases hq; exact h⟩
  | 7 => obtain ⟨c, h⟩ := st_obj (hU _ ao_Text); exact ⟨c, fun ty hq => by cases hq; exact h⟩
  | k + 8 => obtain ⟨c, h⟩ := st_obj (hU _ ao_Text); exact ⟨c, fun ty hq => by cases hq⟩
def w0 (D : va_G) (cA : Nat → ClassId) (z : Nat) (sa : Nat → Nat) : WX := (D, cA, z, sa, [], fun _ => (99, 0))
theorem st_fix {p : Program} {s : State} {m : MethodId} {meth : Method} {c : Code} {b L : Nat} {xs : Nat → Int32} (C0 : lw_At p s m meth c b L xs) : ∃ D cA sa, Fix (w0 D cA s.heap.size sa) s := by
  obtain ⟨hx, hb, hr, hml, hown, hts, hX, hbl, hlocks, hgv⟩ := id C0
  have hU : ∀ q ∈ UW, q.before #[Value.ref b] s = true := fun q hq => hts q (List.mem_filter.mp hq).1
  have hs := flat_of_before _ hgv
  obtain ⟨d, hd⟩ := Classical.axiomOfChoice (st_cls hU)
  obtain ⟨cA, hcA⟩ := Classical.axiomOfChoice (st_tys hU)
  have hA : ∀ a : Nat, a < s.heap.size → ¬ (fun q : Nat => s.heap.size ≤ q) a := fun a h => Nat.not_le.mpr h
  obtain ⟨t0, e0, T0⟩ := va_Tof (args := #[Value.ref b]) (s := s) (ty := .int) (N := 4) (f := fun j => .int (([0, 0, 0, 5] : List Int32).getD j 0)) (by decide) (hs _ na_0) (va_eqt (hs _ nl_0)) (fun j hj => va_eqt (hs _ (ne_0 j hj))) hA
  obtain ⟨t1, e1, T1⟩ := va_Tof (args := #[Value.ref b]) (s := s) (ty := .int) (N := 4) (f := fun j => .int (([999, 10, 9, 31] : List Int32).getD j 0)) (by decide) (hs _ na_1) (va_eqt (hs _ nl_1)) (fun j hj => va_eqt (hs _ (ne_1 j hj))) hA
  obtain ⟨t2, e2, T2⟩ := va_Tof (args := #[Value.ref b]) (s := s) (ty := .int) (N := 5) (f := fun j => .int (([-1, -2, -3, -5, -6] : List Int32).getD j 0)) (by decide) (hs _ na_2) (va_eqt (hs _ nl_2)) (fun j hj => va_eqt (hs _ (ne_2 j hj))) hA
  obtain ⟨t3, e3, T3⟩ := va_Tof (args := #[Value.ref b]) (s := s) (ty := .int) (N := 6) (f := fun j => .int (([0, 1, 0, 3, 0, 0] : List Int32).getD j 0)) (by decide) (hs _ na_3) (va_eqt (hs _ nl_3)) (fun j hj => va_eqt (hs _ (ne_3 j hj))) hA
  obtain ⟨t4, e4, T4⟩ := va_Tof (args := #[Value.ref b]) (s := s) (ty := .int) (N := 6) (f := fun j => .int (([0, 9, 13, 9, 8, 4] : List Int32).getD j 0)) (by decide) (hs _ na_4) (va_eqt (hs _ nl_4)) (fun j hj => va_eqt (hs _ (ne_4 j hj))) hA
  have y1 : ∀ i : Nat, i < 1 → ([144] : List Nat).getD i 0 < 2 ^ 31 := fun i hi => by
    obtain rfl : i = 0 := by omega
    decide
  have y2 : ∀ i : Nat, i < 1 → (Cond.eq (.length (Term.field (Term.string "CribbageRoom$Reader" 130) "java/lang/String" "value" "[B")) (.int (Int32.ofNat (([144] : List Nat).getD i 0)))).before #[Value.ref b] s = true := fun i hi => by
    obtain rfl : i = 0 := by omega
    exact hs _ nx_le
  have y3 : ∀ i : Nat, i < 1 → ∀ j : Nat, j < ([144] : List Nat).getD i 0 → (Cond.eq (.elem (Term.field (Term.string "CribbageRoom$Reader" 130) "java/lang/String" "value" "[B") (.int (Int32.ofNat j))) (.int ((([wdB] : List (List Int32)).getD i []).getD j 0))).before #[Value.ref b] s = true := fun i hi j hj => by
    obtain rfl : i = 0 := by omega
    exact hs _ (nx_el j hj)
  obtain ⟨adK, adV, hSS, heS⟩ := vk_Sof (args := #[Value.ref b]) (s := s) (N := 1) (tm := fun _ => Term.string "CribbageRoom$Reader" 130) (len := [144]) (byt := [wdB]) (A := fun q : Nat => s.heap.size ≤ q) y1 (fun _ _ => hs _ nx_ex) (fun _ _ => hs _ nx_co) (fun _ _ => hs _ nx_ar) y2 y3 (fun i j hi hj h => absurd (show i = j by omega) h) hA
  refine ⟨(fun k => (d k).1, fun k => (d k).2), cA, fun k => match k with | 0 => t0 | 1 => t1 | 2 => t2 | 3 => t3 | 4 => t4 | 5 => adK 0 | _ => adV 0, Nat.le_refl _, ⟨fun k q hq => hd k q hq, fun k q hq => ?_⟩, fun i q hq => ?_, ⟨fun a ci n h => (by have h1 := h.1; cases h1), fun a kd n h => (by have h1 := h.1; cases h1)⟩, ?_⟩
  · match k, hq with
    | 0, hq => cases hq; exact hcA 0 _ rfl
    | 1, hq => cases hq; exact hcA 1 _ rfl
    | 2, hq => cases hq; exact hcA 2 _ rfl
    | 3, hq => cases hq; exact hcA 3 _ rfl
    | 4, hq => cases hq; exact hcA 4 _ rfl
    | 5, hq => cases hq; exact hcA 5 _ rfl
    | 6, hq => cases hq; exact hcA 6 _ rfl
    | 7, hq => cases hq; exact hcA 7 _ rfl
    | k + 8, hq => cases hq
  · match i, hq with
    | 0, hq => cases hq; exact ⟨va_Zof (hts _ nz_0) (hts _ ni_0) e0 hA, T0⟩
    | 1, hq => cases hq; exact ⟨va_Zof (hts _ nz_1) (hts _ ni_1) e1 hA, T1⟩
    | 2, hq => cases hq; exact ⟨va_Zof (hts _ nz_2) (hts _ ni_2) e2 hA, T2⟩
    | 3, hq => cases hq; exact ⟨va_Zof (hts _ nz_3) (hts _ ni_3) e3 hA, T3⟩
    | 4, hq => cases hq; exact ⟨va_Zof (hts _ nz_4) (hts _ ni_4) e4 hA, T4⟩
    | i + 5, hq => cases hq
  · refine ⟨vk_R.of (A := #[Value.ref b]) (hts _ nsr) (heS 0 (by omega)), ⟨fun i hi => ?_, fun i j hi hj _ => by omega⟩, va_Zof (hts _ nzz_cs) (hts _ nii_cs) (va_eqt (hs _ nx_cs)) hA, va_Zqof (hts _ nzz_sf) (hts _ nii_sf) (hs _ nx_sf) hA⟩
    obtain rfl : i = 0 := by omega
    exact hSS.1 0 hi
theorem G11_len : G_X11_init.length = 277 := by decide +kernel
theorem G12_len : G_X12_init.length = 42 := by decide +kernel
set_option maxRecDepth 20000 in
set_option maxHeartbeats 4000000 in
/-- the law, out of what one call of each method says -/
theorem start_of {Inv : Nat → Nat → Nat → Mem → Prop} (hSt : StAll Inv) (hI0 : ∀ (t : Nat) (M : Mem), Inv t (t + 277) (t + 319) (put (put M t 277 T_X11_init) (t + 277) 42 T_X12_init)) {p : Program} {e : Env} {s : State} {m : MethodId} {below : List Frame} {meth : Method} {c : Code} (l : Launch) {b L : Nat} {xs : Nat → Int32} (hL : L ≤ 3072) (C0 : lw_At p s m meth c b L xs) : W p l e room_1 s m #[Value.ref b] below meth c s.heap [] 0 0 (lw_Z below #[Value.ref b] s) (entryFrame m ([Value.ref b] : List Value).toArray 4) := by
  obtain ⟨D, cA, sa, hF⟩ := st_fix C0
  obtain ⟨hx, hb, hr, hml, hown, hts, hX, hbl, hlocks, hgv⟩ := id C0
  have hU : ∀ q ∈ UW, q.before #[Value.ref b] s = true := fun q hq => hts q (List.mem_filter.mp hq).1
  generalize hw : w0 D cA s.heap.size sa = w at hF
  have hwz : wz w = s.heap.size := by rw [← hw]; rfl
  have hdom : wdom w = [] := by rw [← hw]; rfl
  have hLy : Lay w := hF.2.2.2.1
  have hBel : Bel w s.heap.size := fun a ha => by rw [hdom] at ha; cases ha
  have hOk : Ok R_law 4 ret 2048 84000 w (xat (lx p l e s m below meth c b) 0 0) := ⟨hx, hown, hU, hF, hr, hlocks, ⟨rfl, rfl, Nat.zero_le _, Nat.zero_le _⟩, hml⟩
  have key : ∀ M : Mem, C (xat (lx p l e s m below meth c b) 0 0) w (fun _ : Unit => lw_Z below #[Value.ref b] s) 4 0 [(0, .ref b)] [] M (some ()) := by
    intro M
    have hd : ∀ i, DAt (xc (lx p l e s m below meth c b)).code (tbL[i]?) := fun i => by show DAt c.code _; rw [hb]; exact dat_of dL i
    rw [show w = wg w s.heap.size [] from wg_nil.symm] at hOk ⊢
    generalize ht : s.heap.size = t at hOk hBel hwz ⊢
    have hzt : wz w ≤ t := by rw [hwz]; exact Nat.le_refl _
    refine q_free (M' := put M t 277 UZ_X11_init) (put_free (by rw [wg_nil]; exact hBel)) ?_
    refine q_newO (x := lx p l e s m below meth c b) (G := []) (K := 0) (N := 0) (ci := 11) (o := 0) tyX11 rfl hBel hzt (Or.inr rfl) ht hOk (hd 0) rfl inX11 tyX11_ok clL_7 ins_11 ini_11 (by decide) (Nat.le_of_ble_eq_true rfl) (Nat.le_of_ble_eq_true rfl) ((put_at (by decide)).1.trans rfl) ((put_at (by decide)).2.1.trans rfl) ((put_at (by decide)).2.2.1.trans rfl) dvX11 ?_
    refine r_pcA (pc' := 3) rfl ?_
    have hx1 : Ok R_law 4 ret 2048 84000 (wg w t [(40 + 11, 0)]) (xat (lx p l e s m below meth c b) 1 19) := ok_grow (x := lx p l e s m below meth c b) (w' := wg w t [(40 + 11, 0)]) hOk rfl rfl rfl rfl (lay_wg hLy hBel (by decide)) (Nat.le_of_ble_eq_true rfl) (Nat.le_of_ble_eq_true rfl)
    refine r_dup (pc' := 4) hx1 (hd 1) rfl rfl ?_
    refine q_callI (x := lx p l e s m below meth c b) (G0 := []) (K := 1) (N := 19) (ci := 11) (o := 0) (As := []) (rest := [.ref (t + 0)]) rfl hBel (by rw [show (xs_ (lx p l e s m below meth c b)).heap.size = t from ht]; rfl) hx1 (hd 2) mdL_X11_init rfl miL_X11_init mlL_9 (cX11_init l (wg w t []) t (by rw [wg_nil]; exact hBel) hzt (lay_wg hLy hBel (by decide)) M) ⟨Nat.le_of_ble_eq_true rfl, Nat.le_of_ble_eq_true rfl⟩ (Nat.le_of_ble_eq_true rfl) (Nat.le_of_ble_eq_true rfl) rfl rfl (Nat.le_of_ble_eq_true rfl) ?_
    refine r_pcA (pc' := 7) rfl ?_
    have hL1 : Lay (wg w t G_X11_init) := lay_wg hLy hBel (by decide +kernel)
    have hB1 : Bel (wg w t G_X11_init) (t + 277) := by have := bel_wg (G := G_X11_init) hBel; rw [G11_len] at this; exact this
    have hx2 : Ok R_law 4 ret 2048 84000 (wg w t G_X11_init) (xat (lx p l e s m below meth c b) 277 4498) := ok_grow (x := lx p l e s m below meth c b) (w' := wg w t G_X11_init) hx1 rfl rfl rfl rfl hL1 (Nat.le_of_ble_eq_true rfl) (Nat.le_of_ble_eq_true rfl)
    show C (xat (lx p l e s m below meth c b) 277 4498) (wg w t G_X11_init) _ 4 7 [(0, .ref b)] [.ref t] (put M t 277 T_X11_init) (some ())
    refine r_astore_n (pc' := 8) (L' := [(1, .ref t), (0, .ref b)]) hx2 (hd 3) rfl (by decide) rfl rfl ?_
    refine q_free (M' := put (put M t 277 T_X11_init) (t + 277) 42 UZ_X12_init) (put_free hB1) ?_
    have hs2 : (xs_ (lx p l e s m below meth c b)).heap.size + 277 = t + G_X11_init.length := by rw [G11_len]; show s.heap.size + 277 = _; rw [ht]
    refine q_newO (x := lx p l e s m below meth c b) (G := G_X11_init) (K := 277) (N := 4498) (ci := 12) (o := 277) tyX12 G11_len hBel hzt (Or.inl (by rw [G11_len]; decide)) hs2 hx2 (hd 4) rfl inX12 tyX12_ok clL_10 ins_12 ini_12 (by decide) (Nat.le_of_ble_eq_true rfl) (Nat.le_of_ble_eq_true rfl) (by rw [G11_len]; exact (put_at (o := 0) (by decide)).1.trans rfl) (by rw [G11_len]; exact (put_at (o := 0) (by decide)).2.1.trans rfl) (by rw [G11_len]; exact (put_at (o := 0) (by decide)).2.2.1.trans rfl) dvX12 ?_
    refine r_pcA (pc' := 11) rfl ?_
    have hx3 : Ok R_law 4 ret 2048 84000 (wg w t (G_X11_init ++ [(40 + 12, 0)])) (xat (lx p l e s m below meth c b) 278 4566) := ok_grow (x := lx p l e s m below meth c b) (w' := wg w t (G_X11_init ++ [(40 + 12, 0)])) hx2 rfl rfl rfl rfl (lay_wg hLy hBel (by decide +kernel)) (Nat.le_of_ble_eq_true rfl) (Nat.le_of_ble_eq_true rfl)
    show C (xat (lx p l e s m below meth c b) 278 4566) (wg w t (G_X11_init ++ [(40 + 12, 0)])) _ 4 11 [(1, .ref t), (0, .ref b)] [.ref (t + 277)] (put (put M t 277 T_X11_init) (t + 277) 42 UZ_X12_init) (some ())
    refine r_dup (pc' := 12) hx3 (hd 5) rfl rfl ?_
    refine q_callI (x := lx p l e s m below meth c b) (G0 := G_X11_init) (K := 278) (N := 4566) (ci := 12) (o := 277) (As := []) (rest := [.ref (t + 277)]) G11_len hBel (by rw [List.length_append, G11_len]; show s.heap.size + 278 = _; rw [ht]; rfl) hx3 (hd 6) mdL_X12_init rfl miL_X12_init mlL_12 (cX12_init l (wg w t G_X11_init) (t + 277) hB1 (Nat.le_trans hzt (Nat.le_add_right _ _)) hL1 (put M t 277 T_X11_init)) ⟨Nat.le_of_ble_eq_true rfl, Nat.le_of_ble_eq_true rfl⟩ (Nat.le_of_ble_eq_true rfl) (Nat.le_of_ble_eq_true rfl) rfl rfl (Nat.le_of_ble_eq_true rfl) ?_
    refine r_pcA (pc' := 15) rfl ?_
    have hL2 : Lay (wg w t (G_X11_init ++ G_X12_init)) := lay_wg hLy hBel (by decide +kernel)
    have hx4 : Ok R_law 4 ret 2048 84000 (wg w t (G_X11_init ++ G_X12_init)) (xat (lx p l e s m below meth c b) 319 29649) := ok_grow (x := lx p l e s m below meth c b) (w' := wg w t (G_X11_init ++ G_X12_init)) hx3 rfl rfl rfl rfl hL2 (Nat.le_of_ble_eq_true rfl) (Nat.le_of_ble_eq_true rfl)
    show C (xat (lx p l e s m below meth c b) 319 29649) (wg w t (G_X11_init ++ G_X12_init)) _ 4 15 [(1, .ref t), (0, .ref b)] [.ref (t + 277)] (put (put M t 277 T_X11_init) (t + 277) 42 T_X12_init) (some ())
    refine r_astore_n (pc' := 16) (L' := [(2, .ref (t + 277)), (1, .ref t), (0, .ref b)]) hx4 (hd 7) rfl (by decide) rfl rfl ?_
    refine r_iconst (pc' := 17) (v := 0) hx4 (hd 8) (by decide) rfl ?_
    refine r_istore_n (pc' := 18) (L' := [(3, .int 0), (2, .ref (t + 277)), (1, .ref t), (0, .ref b)]) hx4 (hd 9) rfl (by decide) rfl rfl ?_
    refine r_sub [3, 2, 1, 0] rfl ?_
    refine lp_head hL C0 hSt t (t + 277) 512 0 319 29649 (by omega) (by decide) (by decide) (by decide) _ _ (t + 319) hx4 (by rw [← ht] at hwz ⊢; exact hwz) hL2 (wat_new (o := 0) (by decide +kernel)) (wat_new (o := 277) (by decide +kernel)) (fun a ha => ?_) (hI0 t M)
    have := ha (t + 318) (wg_dom.mpr (Or.inr ⟨Nat.le_add_right _ _, by rw [List.length_append, G11_len, G12_len]; omega⟩))
    omega
  have hnil : wcl w Z0 = [] := by show va_pl (wdom w) (cE w Z0) = []; rw [hdom]; rfl
  have hH : Hol w Z0 s.heap := by
    refine ⟨?_, ⟨?_, ?_⟩, ?_⟩
    · intro k q h
      rw [hnil] at h; cases h
    · intro i j p q h
      rw [hnil] at h; cases h
    · intro k q h
      rw [hnil] at h; cases h
    · intro a kd n h
      have h1 := h.1
      rw [hdom] at h1; cases h1
  have Kk := key Z0 () rfl s.heap [] _ hH va_S.rf (lv_entry [.ref b] (n := 4) (Nat.le_of_ble_eq_true rfl))
  rw [lg_entry_eq]
  exact Kk
