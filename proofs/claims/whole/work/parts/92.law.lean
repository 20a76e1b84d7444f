/-! ===== law ===== -/
def LawS (B : Nat → Nat) (L p lv n : Nat) (I : Nat → CI) : Prop := LSim B L p lv n I ∧ n ≤ 12 ∧ ∀ i, i < n → (I i).1 ≤ 6 ∧ (I i).2.2.2.1 = none ∧ ((I i).1 = 6 → (I i).2.2.1 = none)
theorem S1_bar {B : Nat → Nat} {L p lv kind p1 lv1 : Nat} {f : Option Den} (h : S1 B L 0 p lv kind p1 lv1 f) (hk : kind = 6) : f = none := by
  subst hk
  rcases h with h | h
  · simp_all
  · simp_all
theorem readLaw_c {B : Nat → Nat} {L h : Nat} {M : Mem} (T : TpC B L h M) (n3 : mN M (h + 3) = 800) (n4 : mN M (h + 4) = 72) : So (FX5_readText h 1 M) (fun r => CX h M r.2 ∧ mI r.2 h 2 = 0 ∧ ((r.1 = 1 ∧ ∃ N p lv n K I, TxG B L h 0 N p lv n K I ∧ 1 ≤ n ∧ LawS B L p lv n I ∧ ¬ isG B L p 59 ∧ tkK B L p = 0 ∧ r.2 = sI (sI N h 3 (-1)) h 2 0) ∨ (r.1 = 0 ∧ ∃ f, mI r.2 h 3 = Int32.ofNat f ∧ (LFail B L f ∨ ∃ p lv n I, LawS B L p lv n I ∧ ¬ isG B L p 59 ∧ tkK B L p ≠ 0 ∧ f = tkS B L p)))) := by
  have R := readText_c (B := B) (L := L) (h := h) (o := 0) (M := M) (LawS B L) (LFail B L) (Or.inl rfl) T n3 n4 ?_ (fun f hf => LFail_one hf) ?_ (fun p lv n I f s hn hg hb => LFail_step s.1 hn hg hb)
  · exact R
  · intro kind times p1 lv1 p2 lv2 p3 p' lv' f1 f2 ft a1 a2 a3 a4 a5 a6
    obtain ⟨b1, b2, b3, b4⟩ := clg_law a1 a3 a4 a5 a6
    refine ⟨LSim_one b1 a2 a3 b4 _ rfl rfl rfl, by omega, fun i hi => ?_⟩
    have : i = 0 := by omega
    subst this
    simp only [if_true]
    exact ⟨b1, b2, fun z => S1_bar a3 z⟩
  · intro p lv n I kind times p1 lv1 p2 lv2 p3 p' lv' f1 f2 ft s hn hg a1 a2 a3 a4 a5 a6
    obtain ⟨b1, b2, b3, b4⟩ := clg_law a1 a3 a4 a5 a6
    refine ⟨LSim_step s.1 hn hg b1 a2 a3 b4 _ rfl rfl rfl, by omega, fun i hi => ?_⟩
    by_cases z : i = n
    · simp only [if_pos z]
      exact ⟨b1, b2, fun y => S1_bar a3 y⟩
    · simp only [if_neg z]
      exact s.2.2 i (by omega)
/-- what reading a law changes in the reference -/
def RdE (u : Nat) (M N : Mem) : Prop := (∀ q, q ≠ u → (q < u + 10 ∨ u + 15 ≤ q) → Ea M N q) ∧ ∀ k, k ∉ ([0, 14, 15, 16, 18, 19, 20, 21, 23, 26, 29, 30] : List Nat) → mI N u k = mI M u k
theorem lawR {B : Nat → Nat} {L u n0 : Nat} {M : Mem} (T : TpR B L u M) (K : KW u M) (h1 : mI M (u + 2) 1 = Int32.ofNat n0) (h0 : n0 < 6) : ∃ N0, FX12_law u M = (lawX u N0).bind (lawE u) ∧ RdE u M N0 ∧ RE B L u 0 N0 0 0 [] ∧ mI N0 u 21 = 0 ∧ mI N0 u 18 = -1 := by
  obtain ⟨t1, t2, t3⟩ := T
  have T' : TpR B L u (sI M u 0 0) := ⟨t1, by rw [mI_n2 (by decide)]; exact t2, fun k hk => by rw [mI_n1 (by omega)]; exact t3 k hk⟩
  have K' : KW u (sI M u 0 0) := K.keepE rfl rfl rfl rfl
  obtain ⟨N0, e, ⟨b1, b2⟩, r1, r2, r3⟩ := begin_r (o := 0) (Or.inl rfl) T' K'
  have e : FX12_beginText u 0 (sI M u 0 0) = some N0 := e
  refine ⟨N0, ?_, ⟨fun q a b => (Ea_sI a).tr (b1 q a), fun k hk => ?_⟩, r1, r2, r3⟩
  · rw [law_eq, nmb, if_pos (show ¬ mI (sI M u 0 0) (u + 2) 1 = 6 from fun z => by
      rw [mI_n1 (by omega), h1] at z
      have := (nn_eq (b := 6) (by omega) (by omega)).mp z
      omega), ob e, lawX_eq]
  · rw [b2 k (fun z => hk (by simp only [List.mem_cons, List.not_mem_nil, or_false] at z ⊢; omega)), mI_n2 (fun z => hk (by rw [z]; decide))]
theorem RdE.ml {u : Nat} {M N K : Mem} (a : RdE u M N) (b : ML u 10 N K) : RdE u M K := ⟨fun q h1 h2 => (a.1 q h1 h2).tr (b.1 q h1 (by omega) (by omega) (by omega) (by omega) (by omega)), fun k hk => by rw [b.2.1 k (fun z => hk (by simp only [List.mem_cons, List.not_mem_nil, or_false] at z ⊢; omega)), a.2 k hk]⟩
theorem lawR_bad {B : Nat → Nat} {L u n0 f : Nat} {M : Mem} (T : TpR B L u M) (K : KW u M) (h1 : mI M (u + 2) 1 = Int32.ofNat n0) (h0 : n0 < 6) (hf : LFail B L f ∨ ∃ p lv n I, LawS B L p lv n I ∧ ¬ isG B L p 59 ∧ tkK B L p ≠ 0 ∧ f = tkS B L p) : ∃ R, FX12_law u M = bdM (FX12_tell u (-6) R) (fun r N => some (r, N)) ∧ (∀ q, q ≠ u → (q < u + 10 ∨ u + 15 ≤ q) → Ea M R q) ∧ (∀ k, k ∈ ([8, 11, 64, 67] : List Nat) → mI R u k = mI M u k) ∧ mI R u 20 = 0 ∧ mI R u 13 = 0 ∧ mI R u 18 = Int32.ofNat f := by
  obtain ⟨N0, e, d, r1, r2, r3⟩ := lawR T K h1 h0
  have fin : ∀ N N', lawX u N0 = some N → FX12_endText u N = some (sI (sI N' u 20 0) u 13 0) → RdE u M N' → Bad u N' f → ∃ R, FX12_law u M = bdM (FX12_tell u (-6) R) (fun r N => some (r, N)) ∧ (∀ q, q ≠ u → (q < u + 10 ∨ u + 15 ≤ q) → Ea M R q) ∧ (∀ k, k ∈ ([8, 11, 64, 67] : List Nat) → mI R u k = mI M u k) ∧ mI R u 20 = 0 ∧ mI R u 13 = 0 ∧ mI R u 18 = Int32.ofNat f := fun N N' x1 x2 x3 x4 => by
    refine ⟨_, by rw [e, ob x1, lawE_bad x2 x4], fun q a b => ((x3.1 q a b).tr (Ea_sI a)).tr (Ea_sI a), fun k hk => ?_, by simp (disch := omega) only [mI_n1, mI_n2, mI_e, mJ_n1, mJ_n2, mJ_e, mI_sJ, mI_sR, mJ_sI, mJ_sR, mR_sI, mR_sJ], by simp (disch := omega) only [mI_n1, mI_n2, mI_e, mJ_n1, mJ_n2, mJ_e, mI_sJ, mI_sR, mJ_sI, mJ_sR, mR_sI, mR_sJ], by simp (disch := omega) only [mI_n1, mI_n2, mI_e, mJ_n1, mJ_n2, mJ_e, mI_sJ, mI_sR, mJ_sI, mJ_sR, mR_sI, mR_sJ]; exact x4.2⟩
    have k20 : k ≠ 20 := fun z => by rw [z] at hk; exact absurd hk (by decide)
    have k13 : k ≠ 13 := fun z => by rw [z] at hk; exact absurd hk (by decide)
    rw [mI_n2 k13, mI_n2 k20]
    exact x3.2 k (fun z => by simp only [List.mem_cons, List.not_mem_nil, or_false] at z hk; omega)
  rcases hf with hf | ⟨p, lv, n, I, s, hg, hk, rfl⟩
  · obtain ⟨N', y1, y2, y3⟩ := law_flt hf r1 r2
    exact fin N' N' y1 (end_bad y3) (d.ml y2) y3
  · obtain ⟨N', C, y1, y2, y3, y4, y5, y6⟩ := law_run s.1 s.2.1 hg r1 r2 (fun _ => r3)
    obtain ⟨N2, z1, z2, z3⟩ := end_mid y3 hk
    exact fin N' N2 y1 z1 ((d.ml y2).ml (z2.ml (Or.inl rfl))) z3
theorem lawR_ok {B : Nat → Nat} {L u n0 p lv n : Nat} {I : Nat → CI} {M : Mem} (T : TpR B L u M) (K : KW u M) (h1 : mI M (u + 2) 1 = Int32.ofNat n0) (h0 : n0 < 6) (s : LawS B L p lv n I) (hg : ¬ isG B L p 59) (hk : tkK B L p = 0) : ∃ N len W, RdE u M N ∧ FX12_law u M = some (Int32.ofNat n0, W) ∧ LkE u n0 n len N W ∧ len ≤ 400 ∧ TxL (mI N (u + 11)) (mI N (u + 12)) (mI N (u + 10)) len n I ∧ mI N u 18 = -1 := by
  obtain ⟨N0, e, d, r1, r2, r3⟩ := lawR T K h1 h0
  obtain ⟨N', C, y1, y2, y3, y4, y5, y6⟩ := law_run s.1 s.2.1 hg r1 r2 (fun _ => r3)
  have d' := d.ml y2
  have hC : C.length ≤ 400 := by
    have := y3.2.2.2.2.2.2.2.2.1
    have := tkS_le B y3.2.1
    have := y3.1.1
    omega
  obtain ⟨⟨v, W⟩, w1, w2, w3⟩ := lawE_ok (end_ok y3 hk) y3.2.2.2.1 y4 s.2.1 y3.2.2.2.2.2.2.1 hC (by rw [(d'.1 (u + 2) (by omega) (by omega)).1]; exact h1) h0
  have w2 : v = Int32.ofNat n0 := w2
  exact ⟨N', C.length, W, d', by rw [e, ob y1, w1, w2], w3, hC, y5, y6⟩
