/-- whose a card is after i cards were dealt by the dealer d -/
def dlO (s0 d : Nat) : Nat → Nat → Int32
  | 0 => fun _ => -1
  | i + 1 => fun c => if c = dlC s0 i then (if i = 12 then 3 else Int32.ofNat (if i % 2 = 1 then d else 1 - d)) else dlO s0 d i c
theorem dlO_left {s0 d : Nat} : ∀ i c, (dlS s0 i).1 c = true → dlO s0 d i c = -1 := by
  intro i
  induction i with
  | zero => intro c _; rfl
  | succ i ih =>
    intro c hc
    have hc : ((dlS s0 i).1 c && !decide (c = dlC s0 i)) = true := hc
    simp only [Bool.and_eq_true, Bool.not_eq_true', decide_eq_false_iff_not] at hc
    show (if c = dlC s0 i then _ else dlO s0 d i c) = -1
    rw [if_neg hc.2]; exact ih c hc.1
theorem dlO_new {s0 d i c p : Nat} (hi : i < 12) (hp : p < 2) (hd : d < 2) : decide (dlO s0 d (i + 1) c = Int32.ofNat p) = (decide (dlO s0 d i c = Int32.ofNat p) || (decide (p = if i % 2 = 1 then d else 1 - d) && decide (c = dlC s0 i))) := by
  have hx : (if i % 2 = 1 then d else 1 - d) < 2 := by split <;> omega
  show decide ((if c = dlC s0 i then (if i = 12 then 3 else Int32.ofNat (if i % 2 = 1 then d else 1 - d)) else dlO s0 d i c) = Int32.ofNat p) = _
  generalize (if i % 2 = 1 then d else 1 - d) = x at hx ⊢
  by_cases z : c = dlC s0 i
  · have hl : dlO s0 d i c = -1 := dlO_left i c (by rw [z]; exact (dlC_in (by omega)).2)
    rw [if_pos z, if_neg (by omega), hl]
    have hm : ¬ ((-1 : Int32) = Int32.ofNat p) := fun y => by
      have := congrArg Int32.toInt y
      rw [nn_int (by omega), show (-1 : Int32).toInt = -1 from rfl] at this
      omega
    by_cases y : p = x
    · simp [y, z]
    · have : ¬ Int32.ofNat x = Int32.ofNat p := fun w => y ((nn_eq (by omega) (by omega)).mp w).symm
      simp [y, this, hm]
  · rw [if_neg z]; simp [z]
theorem at1_getD {l : List Nat} {k : Nat} (h : k < l.length) : at1 l k = Int32.ofNat (l.getD k 0) := by
  unfold at1
  rw [List.getD_eq_getElem?_getD, List.getElem?_eq_getElem h]; rfl
