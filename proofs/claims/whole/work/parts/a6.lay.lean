/-! ===== a table, step by step ===== -/
def ru (r : Nat → Int32) (k : Nat) (v : Int32) : Nat → Int32 := fun j => if j = k then v else r j
theorem ru_e {r : Nat → Int32} {k : Nat} {v : Int32} : ru r k v k = v := if_pos rfl
theorem ru_n {r : Nat → Int32} {k j : Nat} {v : Int32} (h : j ≠ k) : ru r k v j = r j := if_neg h
theorem sI_ru {B : Mem} {a k : Nat} {v : Int32} : mI (sI B a k v) a = ru (mI B a) k v := funext fun j => by
  rw [mI_sI]
  unfold ru
  by_cases z : j = k
  · rw [if_pos ⟨rfl, z⟩, if_pos z]
  · rw [if_neg (fun y => z y.2), if_neg z]
theorem TR.fld {A : Mem} {b f k : Nat} {r : Nat → Int32} {v : Int32} (h : TR A b r) (hf : (f, k) ∈ ([(5, 9), (6, 10), (7, 11), (8, 13), (9, 12), (10, 14), (11, 15), (12, 8)] : List (Nat × Nat))) : TR (sI A b f v) b (ru r k v) := by
  obtain ⟨h1, h2, h3, h4, h5, h6, h7, h8, h9, h10, h11, h12, h13, h14, h15⟩ := h
  have hk : k < 16 := by simp at hf; omega
  simp only [List.mem_cons, Prod.mk.injEq, List.not_mem_nil, or_false] at hf
  refine ⟨h1.congr (fun c hc => by rw [ru_n (by omega)]), h2.congr (fun c hc => by rw [ru_n (by omega)]), h3.congr (fun c hc => by rw [ru_n (by omega)]), h4.congr (fun c hc => by rw [ru_n (by omega)]), ?_, ?_, ?_, ?_, ?_, ?_, ?_, ?_, by rw [mI_n1 (by omega), ru_n (by omega)]; exact h13, by rw [mI_n1 (by omega), ru_n (by omega)]; exact h14, fun j hj => by rw [mI_n1 (by omega), ru_n (by omega)]; exact h15 j hj⟩
  all_goals (rcases hf with ⟨rfl, rfl⟩ | ⟨rfl, rfl⟩ | ⟨rfl, rfl⟩ | ⟨rfl, rfl⟩ | ⟨rfl, rfl⟩ | ⟨rfl, rfl⟩ | ⟨rfl, rfl⟩ | ⟨rfl, rfl⟩)
  all_goals first | (rw [mI_e, ru_e]; done) | (rw [mI_n2 (by decide), ru_n (by decide)]; assumption)
theorem TR.peg {A : Mem} {b p : Nat} {r : Nat → Int32} {v : Int32} (h : TR A b r) (hp : p < 2) : TR (sI A (b + 2) p v) b (ru r (16 + p) v) := by
  obtain ⟨h1, h2, h3, h4, h5, h6, h7, h8, h9, h10, h11, h12, h13, h14, h15⟩ := h
  refine ⟨h1.congr (fun c hc => by rw [ru_n (by omega)]), h2.congr (fun c hc => by rw [ru_n (by omega)]), h3.congr (fun c hc => by rw [ru_n (by omega)]), h4.congr (fun c hc => by rw [ru_n (by omega)]), ?_, ?_, ?_, ?_, ?_, ?_, ?_, ?_, ?_, ?_, fun j hj => by rw [mI_n1 (by omega), ru_n (by omega)]; exact h15 j hj⟩
  all_goals first | (rw [mI_n1 (by omega), ru_n (by omega)]; assumption) | skip
  all_goals (obtain rfl | rfl : p = 0 ∨ p = 1 := by omega)
  all_goals first | (rw [mI_e]; exact ru_e.symm) | (rw [mI_n2 (by decide), ru_n (by decide)]; assumption)
theorem TR.line {A : Mem} {b k : Nat} {r : Nat → Int32} {v : Int32} (h : TR A b r) (hk : k < 8) : TR (sI A (b + 3) k v) b (ru r (122 + k) v) := by
  obtain ⟨h1, h2, h3, h4, h5, h6, h7, h8, h9, h10, h11, h12, h13, h14, h15⟩ := h
  refine ⟨h1.congr (fun c hc => by rw [ru_n (by omega)]), h2.congr (fun c hc => by rw [ru_n (by omega)]), h3.congr (fun c hc => by rw [ru_n (by omega)]), h4.congr (fun c hc => by rw [ru_n (by omega)]), ?_, ?_, ?_, ?_, ?_, ?_, ?_, ?_, ?_, ?_, fun j hj => ?_⟩
  all_goals first | (rw [mI_n1 (by omega), ru_n (by omega)]; assumption) | skip
  by_cases z : j = k
  · rw [z, mI_e, ru_e]
  · rw [mI_n2 z, ru_n (by omega)]; exact h15 j hj
def zr (r : Nat → Int32) : Nat → Int32 := fun j => if 70 ≤ j ∧ j < 122 then 0 else r j
theorem zr_n {r : Nat → Int32} {j : Nat} (h : ¬ (70 ≤ j ∧ j < 122)) : zr r j = r j := if_neg h
theorem zr_y {r : Nat → Int32} {c : Nat} (h : c < 52) : zr r (70 + c) = 0 := if_pos (by omega)
theorem TR.gone0 {A : Mem} {b : Nat} {r : Nat → Int32} (h : TR A b r) : TR (sJ A b 4 0) b (zr r) := by
  obtain ⟨h1, h2, h3, h4, h5, h6, h7, h8, h9, h10, h11, h12, h13, h14, h15⟩ := h
  refine ⟨?_, ?_, ?_, ?_, ?_, ?_, ?_, ?_, ?_, ?_, ?_, ?_, ?_, ?_, fun j hj => by rw [mI_sJ, zr_n (by omega)]; exact h15 j hj⟩
  · rw [mJ_n1 (by omega)]; exact h1.congr (fun c hc => by rw [zr_n (by omega)])
  · rw [mJ_n1 (by omega)]; exact h2.congr (fun c hc => by rw [zr_n (by omega)])
  · rw [mJ_n2 (by omega)]; exact h3.congr (fun c hc => by rw [zr_n (by omega)])
  · rw [mJ_e]; exact Bs.zero.congr (fun c hc => by rw [zr_y hc]; rfl)
  all_goals (rw [mI_sJ, zr_n (by omega)]; assumption)
theorem TR.gone1 {A : Mem} {b c : Nat} {r : Nat → Int32} (h : TR A b r) (hc : c < 52) : TR (sJ A b 4 (mJ A b 4 ||| ((1 : Int64) <<< ((Int32.ofNat c).toInt64 &&& 63)))) b (ru r (70 + c) 1) := by
  obtain ⟨h1, h2, h3, h4, h5, h6, h7, h8, h9, h10, h11, h12, h13, h14, h15⟩ := h
  refine ⟨?_, ?_, ?_, ?_, ?_, ?_, ?_, ?_, ?_, ?_, ?_, ?_, ?_, ?_, fun j hj => by rw [mI_sJ, ru_n (by omega)]; exact h15 j hj⟩
  · rw [mJ_n1 (by omega)]; exact h1.congr (fun c hc => by rw [ru_n (by omega)])
  · rw [mJ_n1 (by omega)]; exact h2.congr (fun c hc => by rw [ru_n (by omega)])
  · rw [mJ_n2 (by omega)]; exact h3.congr (fun c hc => by rw [ru_n (by omega)])
  · rw [mJ_e]
    refine (h4.or (Bs.one hc)).congr (fun d hd => ?_)
    by_cases z : d = c
    · rw [z, ru_e]; simp
    · rw [ru_n (by omega), decide_eq_false z, Bool.or_false]
  all_goals (rw [mI_sJ, ru_n (by omega)]; assumption)
theorem TR.lay {A : Mem} {b c p : Nat} {r : Nat → Int32} (h : TR A b r) (hc : c < 52) (hp : p < 2) (hw : r (18 + c) = Int32.ofNat p) : TR (sJ (sJ A (b + 1) p (mJ A (b + 1) p &&& (((1 : Int64) <<< ((Int32.ofNat c).toInt64 &&& 63)) ^^^ (-1)))) b 3 (mJ A b 3 ||| ((1 : Int64) <<< ((Int32.ofNat c).toInt64 &&& 63)))) b (ru r (18 + c) 2) := by
  have own : ∀ q, q < 2 → Bs (mJ A (b + 1) q) (fun d => decide (r (18 + d) = Int32.ofNat q)) := fun q hq => h.own hq
  obtain ⟨h1, h2, h3, h4, h5, h6, h7, h8, h9, h10, h11, h12, h13, h14, h15⟩ := h
  have two : ∀ q, q < 2 → ¬ (2 : Int32) = Int32.ofNat q := fun q hq => by
    obtain rfl | rfl : q = 0 ∨ q = 1 := by omega
    all_goals decide
  have hand : ∀ q, q < 2 → Bs (mJ (sJ (sJ A (b + 1) p (mJ A (b + 1) p &&& (((1 : Int64) <<< ((Int32.ofNat c).toInt64 &&& 63)) ^^^ (-1)))) b 3 (mJ A b 3 ||| ((1 : Int64) <<< ((Int32.ofNat c).toInt64 &&& 63)))) (b + 1) q) (fun d => decide (ru r (18 + c) 2 (18 + d) = Int32.ofNat q)) := fun q hq => by
    rw [mJ_n1 (by omega)]
    by_cases z : q = p
    · subst z
      rw [mJ_e]
      refine ((own q hq).andnot (Bs.one hc)).congr (fun d hd => ?_)
      by_cases y : d = c
      · rw [y, ru_e, decide_eq_false (two q hq)]; simp
      · rw [ru_n (by omega), decide_eq_false y]; simp
    · rw [mJ_n2 z]
      refine (own q hq).congr (fun d hd => ?_)
      by_cases y : d = c
      · rw [y, ru_e, decide_eq_false (two q hq), hw, decide_eq_false]
        rw [nn_eq (by omega) (by omega)]; omega
      · rw [ru_n (by omega)]
  refine ⟨hand 0 (by decide), hand 1 (by decide), ?_, ?_, ?_, ?_, ?_, ?_, ?_, ?_, ?_, ?_, ?_, ?_, fun j hj => by rw [mI_sJ, mI_sJ, ru_n (by omega)]; exact h15 j hj⟩
  · rw [mJ_e]
    refine (h3.or (Bs.one hc)).congr (fun d hd => ?_)
    by_cases y : d = c
    · rw [y, ru_e]; simp
    · rw [ru_n (by omega), decide_eq_false y, Bool.or_false]
  · rw [mJ_n2 (by decide), mJ_n1 (by omega)]; exact h4.congr (fun d hd => by rw [ru_n (by omega)])
  all_goals (rw [mI_sJ, mI_sJ, ru_n (by omega)]; assumption)
theorem cs_del {P : Nat → Bool} {x : Nat} (hx : P x = true) (h : x < 52) : (cs (fun c => P c && !decide (c = x))).length + 1 = (cs P).length := by
  rw [← cs_ins (fun c => P c && !decide (c = x)) x (by simp) h]
  congr 1
  refine cs_cg (fun c hc => ?_)
  by_cases z : c = x
  · rw [z, hx]; simp
  · simp [z]
/-! ===== to lay, as a function ===== -/
def lyB (r : Nat → Int32) : Nat → Int32 := zr (ru (ru (ru (ru r 9 2) 12 0) 13 0) 15 (-1))
def pgM (x y : Int32) : Int32 := imn 9999 (x + y)
def pgP (r : Nat → Int32) (p : Nat) (y : Int32) : Nat → Int32 := ru r (16 + p) (pgM (r (16 + p)) y)
def lyC (r : Nat → Int32) : Nat → Int32 := if r 11 / 4 = 10 then pgP r (ix (r 10)) 2 else r
def lyD (V : Nat → Int32) (Bd : Nat → Bool) (r : Nat → Int32) : Nat → Int32 := ru r 14 (tnP V Bd r (1 - r 10) (r 10))
def nAt (r : Nat → Int32) (p : Int32) : Nat := (cs (fun c => decide (r (18 + c) = p))).length
def lyP (V : Nat → Int32) (Bd : Nat → Bool) (r : Nat → Int32) (c : Nat) : Nat → Int32 := if nAt (ru r (18 + c) 2) 0 = 4 ∧ nAt (ru r (18 + c) 2) 1 = 4 then lyD V Bd (lyC (lyB (ru r (18 + c) 2))) else ru r (18 + c) 2
theorem pg_eq {x y : Int32} (hx : 0 ≤ x.toInt ∧ x.toInt ≤ 9999) (hy : 0 ≤ y.toInt ∧ y.toInt ≤ 1000000) : bdd (x + y).toInt64 0 9999 = pgM x y ∧ 0 ≤ (pgM x y).toInt ∧ (pgM x y).toInt ≤ 9999 := by
  have hs : (x + y).toInt = x.toInt + y.toInt := i_add (by omega) (by omega)
  unfold bdd pgM imn
  rw [j_int, hs, show (0 : Int32).toInt = 0 from rfl, show (9999 : Int32).toInt = 9999 from rfl, if_pos (by omega)]
  by_cases c : x.toInt + y.toInt ≤ 9999
  · rw [if_pos c]
    have e : (x + y).toInt64.toInt32 = x + y := by
      apply Int32.toInt_inj.mp
      rw [Int64.toInt_toInt32, j_int, i_bm (by omega) (by omega)]
    rw [e]
    by_cases d : x + y < (9999 : Int32)
    · rw [if_pos d]; exact ⟨rfl, by omega, by omega⟩
    · rw [if_neg d]
      rw [Int32.lt_iff_toInt_lt, hs, show (9999 : Int32).toInt = 9999 from rfl] at d
      exact ⟨Int32.toInt_inj.mp (by rw [hs, show (9999 : Int32).toInt = 9999 from rfl]; omega), by decide, by decide⟩
  · rw [if_neg c]
    have d : ¬ x + y < (9999 : Int32) := by rw [Int32.lt_iff_toInt_lt, hs, show (9999 : Int32).toInt = 9999 from rfl]; omega
    rw [if_neg d]; exact ⟨rfl, by decide, by decide⟩
theorem addPegs_c {b p : Nat} {A : Mem} {y : Int32} (hp : p < 2) : FX8_addPegs b (Int32.ofNat p) y A = some (sI A (b + 2) p (pgM (mI A (b + 2) p) y)) := by
  unfold FX8_addPegs pgM
  obtain rfl | rfl : p = 0 ∨ p = 1 := by omega
  all_goals rfl
theorem peg_r {u p : Nat} {B : Mem} {y : Int32} (hp : p < 2) (hx : 0 ≤ (mI B (u + 2) (16 + p)).toInt ∧ (mI B (u + 2) (16 + p)).toInt ≤ 9999) (hy : 0 ≤ y.toInt ∧ y.toInt ≤ 1000000) : FX12_peg u (Int32.ofNat p) y B = some (sI B (u + 2) (16 + p) (pgM (mI B (u + 2) (16 + p)) y)) := by
  unfold FX12_peg
  rw [show (16 : Int32) + Int32.ofNat p = Int32.ofNat (16 + p) from nn_add 16 p, nn_ix (by omega), gp (inb_nn (by omega) (by decide)), ob (bounded_eq _ _ _), gp (inb_nn (by omega) (by decide)), nmb, (pg_eq hx hy).1]
