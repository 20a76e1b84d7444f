/-! ===== the class reads a text ===== -/
theorem readText_c {B : Nat → Nat} {L h o : Nat} {M : Mem} (Sim : Nat → Nat → Nat → (Nat → CI) → Prop) (Fail : Nat → Prop) (ho : o = 0 ∨ o = 1) (T : TpC B L h M) (n3 : mN M (h + 3) = 800) (n4 : mN M (h + 4) = 72)
  (H1 : ∀ kind times p1 lv1 p2 lv2 p3 p' lv' f1 f2 ft, HdOk o kind → isW B L 0 kind → S1 B L o 0 0 kind p1 lv1 f1 → S2 B L o p1 lv1 kind p2 lv2 f2 → S3 B L o p2 times p3 → S4 B L o p3 lv2 p' lv' ft → Sim p' lv' 1 (fun i => if i = 0 then (kind, times, f1, f2, ft) else (0, 0, none, none, none)))
  (F1 : ∀ f, ClB B L o 0 0 0 f → Fail f)
  (H2 : ∀ p lv n I kind times p1 lv1 p2 lv2 p3 p' lv' f1 f2 ft, Sim p lv n I → n < 12 → isG B L p 59 → HdOk o kind → isW B L (tkE B L p) kind → S1 B L o (tkE B L p) lv kind p1 lv1 f1 → S2 B L o p1 lv1 kind p2 lv2 f2 → S3 B L o p2 times p3 → S4 B L o p3 lv2 p' lv' ft → Sim p' lv' (n + 1) (fun i => if i = n then (kind, times, f1, f2, ft) else I i))
  (F2 : ∀ p lv n I f, Sim p lv n I → n ≤ 12 → isG B L p 59 → ClB B L o (tkE B L p) lv n f → Fail f) :
  So (FX5_readText h (if o = 0 then 1 else 0) M) (fun r => CX h M r.2 ∧ mI r.2 h 2 = 0 ∧ ((r.1 = 1 ∧ ∃ N p lv n K I, TxG B L h o N p lv n K I ∧ 1 ≤ n ∧ Sim p lv n I ∧ ¬ isG B L p 59 ∧ tkK B L p = 0 ∧ r.2 = sI (sI N h 3 (-1)) h 2 0) ∨ (r.1 = 0 ∧ ∃ f, mI r.2 h 3 = Int32.ofNat f ∧ (Fail f ∨ ∃ p lv n I, Sim p lv n I ∧ ¬ isG B L p 59 ∧ tkK B L p ≠ 0 ∧ f = tkS B L p)))) := by
  obtain ⟨hL, t2, tb⟩ := T
  unfold FX5_readText
  refine So_gd (by rcases ho with rfl | rfl <;> rfl) (So_nm (So_nm (So_nm (So_nm (So_nm (So_nm ?_))))))
  generalize hM10 : sI (sI (sI (sI (sI (sI M h 4 (if o = 0 then 1 else 0)) h 5 0) h 7 0) (h + 2) 2 0) (h + 2) 3 0) (h + 2) 4 0 = M10
  have X10 : CX h M M10 := by
    rw [← hM10]
    exact (((((CX_h (by decide)).tr (CX_h (by decide))).tr (CX_h (by decide))).tr (CX_d (by decide))).tr (CX_d (by decide))).tr (CX_d (by decide))
  have f10 : ∀ k, mI M10 h k = if k = 7 then 0 else if k = 5 then 0 else if k = 4 then (if o = 0 then 1 else 0) else mI M h k := fun k => by
    rw [← hM10, mI_sI, if_neg (by omega), mI_sI, if_neg (by omega), mI_sI, if_neg (by omega), mI_sI, mI_sI, mI_sI]
    by_cases z7 : k = 7
    · rw [if_pos ⟨rfl, z7⟩, if_pos z7]
    rw [if_neg (fun y => z7 y.2), if_neg z7]
    by_cases z5 : k = 5
    · rw [if_pos ⟨rfl, z5⟩, if_pos z5]
    rw [if_neg (fun y => z5 y.2), if_neg z5]
    by_cases z4 : k = 4
    · rw [if_pos ⟨rfl, z4⟩, if_pos z4]
    rw [if_neg (fun y => z4 y.2), if_neg z4]
  have d2 : mI M10 (h + 2) 2 = 0 := by rw [← hM10, mI_sI, if_neg (by simp), mI_sI, if_neg (by simp), mI_sI, if_pos ⟨rfl, rfl⟩]
  have d3 : mI M10 (h + 2) 3 = 0 := by rw [← hM10, mI_sI, if_neg (by simp), mI_sI, if_pos ⟨rfl, rfl⟩]
  have d4 : mI M10 (h + 2) 4 = 0 := by rw [← hM10, mI_sI, if_pos ⟨rfl, rfl⟩]
  have T10 : TpC B L h M10 := ⟨hL, by rw [f10, if_neg (by decide), if_neg (by decide), if_neg (by decide)]; exact t2, fun k hk => by rw [(X10.1 (h + 1) (by omega) (by omega) (by omega) (by omega)).1]; exact tb k hk⟩
  refine So_bdM (advance_so (q := 0) T10 (by rw [f10, if_pos rfl]; rfl) (by omega)) (fun r12 M11 h11 => ?_)
  obtain ⟨-, e11, k11⟩ := h11
  have k11 : TkC B L h M11 0 := k11
  have E11 := CE_a e11
  have g2 : mI M11 (h + 2) = mI M10 (h + 2) := (e11.1 (h + 2) (by omega)).1
  have s11 : CS B L h o M11 0 0 [] 0 := ⟨T10.keep e11, by omega, k11, by rw [e11.2.1 5 (by decide) (by decide) (by decide) (by decide), f10, if_neg (by decide), if_pos rfl]; rfl, by omega, ⟨by rw [E11.2.2.2.1, X10.2.2.2.1]; exact n3, by rw [g2, d2]; rfl, fun i hi => absurd hi (by simp), Or.inl (by rw [g2]; exact d4)⟩, by simp, by rw [e11.2.1 4 (by decide) (by decide) (by decide) (by decide), f10, if_neg (by decide), if_neg (by decide), if_pos rfl]⟩
  have m11 : CM h M11 0 := ⟨by rw [g2, d3]; rfl, by rw [E11.2.2.2.1, X10.2.2.2.1]; exact n4⟩
  have X11 : CX h M M11 := X10.tr E11.ct.cx
  refine So_bdM (readClause_c s11 m11 (by omega) ho) (fun r14 M13 h13 => ?_)
  obtain ⟨T13, h13⟩ := h13
  have T13 : CT h M11 M13 := T13
  refine So_wl3 (fun v15 v16 N => ∃ i, v16 = Int32.ofNat i ∧ CX h M N ∧ ((v15 = 1 ∧ i ≤ 11 ∧ ∃ p lv K I, TxG B L h o N p lv (i + 1) K I ∧ Sim p lv (i + 1) I) ∨ (v15 = 0 ∧ i ≤ 13 ∧ ∃ f, mI N h 6 = Int32.ofNat f ∧ Fail f))) (fun _ v16 _ => 14 - ix v16) ?_ fuel r14 0 M13 ⟨0, rfl, X11.tr T13.cx, ?_⟩ (by unfold fuel; omega)
  · rintro v15 v16 N rec ⟨i, rfl, XN, hN⟩ hr
    refine So_jn1R (fun N' => N' = N ∧ ((v15 = 1 ∧ ∃ p lv n K I, TxG B L h o N p lv n K I ∧ 1 ≤ n ∧ Sim p lv n I ∧ ¬ isG B L p 59) ∨ (v15 = 0 ∧ ∃ f, mI N h 6 = Int32.ofNat f ∧ Fail f))) (fun M20 h20 => ?_) (fun j21 hj21 => ?_)
    · obtain ⟨rfl, h20⟩ := h20
      refine So_jn1R (fun v => (v = 1 ∧ ∃ p lv n K I, TxG B L h o M20 p lv n K I ∧ 1 ≤ n ∧ Sim p lv n I ∧ ¬ isG B L p 59 ∧ tkK B L p = 0) ∨ (v = 0 ∧ ∃ f, mI M20 h 6 = Int32.ofNat f ∧ (Fail f ∨ ∃ p lv n I, Sim p lv n I ∧ ¬ isG B L p 59 ∧ tkK B L p ≠ 0 ∧ f = tkS B L p))) (fun v23 h23 => ?_) (fun j24 hj24 => So_jn0 ?_)
      · refine So_jn1R (fun v => (v23 = 1 → v = -1) ∧ (v23 = 0 → v = mI M20 h 6)) (fun v26 h26 => So_nm (So_nm (So_gd ?_ (So.ok ⟨(XN.tr (CX_h (by decide))).tr (CX_h (by decide)), by rw [mI_sI, if_pos ⟨rfl, rfl⟩], ?_⟩)))) (fun j27 hj27 => ?_)
        · rcases h23 with ⟨rfl, _⟩ | ⟨rfl, _⟩ <;> rfl
        · rcases h23 with ⟨rfl, p, lv, n, K, I, a1, a2, a3, a4, a5⟩ | ⟨rfl, f, a1, a2⟩
          · have := h26.1 rfl
            subst this
            exact Or.inl ⟨rfl, M20, p, lv, n, K, I, a1, a2, a3, a4, a5, rfl⟩
          · have := h26.2 rfl
            subst this
            refine Or.inr ⟨rfl, f, ?_, a2⟩
            rw [mI_sI, if_neg (by simp), mI_sI, if_pos ⟨rfl, rfl⟩]; exact a1
        · rcases h23 with ⟨rfl, _⟩ | ⟨rfl, _⟩
          · rw [if_neg (by decide)]; exact hj27 _ ⟨fun _ => rfl, fun z => absurd z (by decide)⟩
          · rw [if_pos rfl]; exact hj27 _ ⟨fun z => absurd z (by decide), fun _ => rfl⟩
      · rcases h20 with ⟨rfl, p, lv, n, K, I, a1, a2, a3, a4⟩ | ⟨rfl, f, a1, a2⟩
        · rw [if_neg (by decide), a1.1.2.2.1.2.2.1]
          have hk4 : tkK B L p ≤ 3 := by unfold tkK; split; omega; split; omega; split <;> omega
          by_cases z : tkK B L p = 0
          · rw [if_neg (fun y => y (by rw [z]; rfl))]
            exact hj24 _ (Or.inl ⟨rfl, p, lv, n, K, I, a1, a2, a3, a4, z⟩)
          · rw [if_pos (show ¬ Int32.ofNat (tkK B L p) = 0 from fun y => z ((nn_eq (b := 0) (by omega) (by omega)).mp y))]
            exact hj24 _ (Or.inr ⟨rfl, tkS B L p, a1.1.2.2.1.1, Or.inr ⟨p, lv, n, I, a3, a4, z, rfl⟩⟩)
        · rw [if_pos rfl]
          exact hj24 _ (Or.inr ⟨rfl, f, a1, Or.inl a2⟩)
    · rcases hN with ⟨rfl, hi, p, lv, K, I, a1, a2⟩ | ⟨rfl, hi, f, a1, a2⟩
      · rw [if_neg (show ¬ (400 : Int32) ≤ Int32.ofNat i from nle (n := 400) (by omega) (by decide)), if_neg (by decide)]
        refine So_bdM (skipSign_c (j := 59) a1.1 (by decide)) (fun r N1 hr1 => ?_)
        rcases hr1 with ⟨q1, q2, q3, q4, q5⟩ | ⟨q1, q2⟩
        · have q2 : r = 1 := q2
          have q3 : CE h N N1 := q3
          have q4 : mI N1 (h + 2) = mI N (h + 2) := q4
          have q5 : CS B L h o N1 (tkE B L p) lv K (0 + 1) := q5
          have q5 := q5.less (c' := 0) (by omega)
          have e3 : ∀ k, k < 2 * K.length → mI N1 (h + 3) k = mI N (h + 3) k := cC_agree (X := []) a1.1.2.2.2.2.2.1.2.2.1 (by rw [List.append_nil]; exact q5.2.2.2.2.2.1.2.2.1)
          have e4 : mI N1 (h + 4) = mI N (h + 4) := (q3.1 (h + 4) (by omega) (by omega) (by omega)).1
          rw [q2, if_neg (by decide)]
          refine So_bdM (readClause_c q5 (a1.2.1.ce q3) a1.2.2.1 ho) (fun r2 N2 hr2 => So_nm ?_)
          obtain ⟨T2, h2⟩ := hr2
          have T2 : CT h N1 N2 := T2
          have XN2 : CX h M N2 := (XN.tr q3.ct.cx).tr T2.cx
          rw [s1]
          rcases h2 with ⟨w1, w2⟩ | ⟨w1, f, w2, w3⟩
          · have w1 : r2 = 1 := w1
            obtain ⟨kind, times, p1, lv1, p2, lv2, p3, p', lv', f1, f2, ft, K', x0, x1, x2, x3, x4, x5, x6, x7⟩ := ClG.tx w2 q5 (a1.2.2.2.1.cg e3 (fun k _ => by rw [e4]) (Nat.le_refl _)) a1.2.2.2.2.1 (fun y z => a1.2.2.2.2.2.1 y (by rw [← q4]; exact z)) a1.2.2.2.2.2.2
            exact hr _ _ _ ⟨i + 1, rfl, XN2, Or.inl ⟨w1, by omega, p', lv', K', _, x7, H2 _ _ _ _ _ _ _ _ _ _ _ _ _ _ _ _ a2 x0 q1 x1 x2 x3 x4 x5 x6⟩⟩ (by rw [nn_ix (by omega), nn_ix (by omega)]; omega)
          · exact hr _ _ _ ⟨i + 1, rfl, XN2, Or.inr ⟨w1, by omega, f, w3, F2 _ _ _ _ _ a2 a1.2.2.1 q1 w2⟩⟩ (by rw [nn_ix (by omega), nn_ix (by omega)]; omega)
        · cases q2
          rw [if_pos rfl]
          exact hj21 _ ⟨rfl, Or.inl ⟨rfl, p, lv, i + 1, K, I, a1, by omega, a2, q1⟩⟩
      · have ok := hj21 N ⟨rfl, Or.inr ⟨rfl, f, a1, a2⟩⟩
        exact So.ite (fun _ => ok) (fun _ => by rw [if_pos rfl]; exact ok)
  · rcases h13 with ⟨w1, w2⟩ | ⟨w1, f, w2, w3⟩
    · obtain ⟨kind, times, p1, lv1, p2, lv2, p3, p', lv', f1, f2, ft, K', x0, x1, x2, x3, x4, x5, x6, x7⟩ := ClG.tx (I := fun _ => (0, 0, none, none, none)) w2 s11 (fun i hi => absurd hi (Nat.not_lt_zero _)) (fun i hi => absurd hi (Nat.not_lt_zero _)) (fun _ _ i hi => absurd hi (Nat.not_lt_zero _)) (fun i hi => absurd hi (Nat.not_lt_zero _))
      exact Or.inl ⟨w1, by omega, p', lv', K', _, x7, H1 _ _ _ _ _ _ _ _ _ _ _ _ x1 x2 x3 x4 x5 x6⟩
    · exact Or.inr ⟨w1, by omega, f, w3, F1 f w2⟩
