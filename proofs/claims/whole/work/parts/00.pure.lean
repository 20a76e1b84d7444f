def wdB : List Int32 := [118, 97, 108, 117, 101, 32, 102, 105, 102, 116, 101, 101, 110, 32, 112, 97, 105, 114, 32, 114, 117, 110, 32, 102, 108, 117, 115, 104, 32, 110, 111, 98, 32, 98, 97, 114, 115, 32, 108, 97, 121, 32, 112, 108, 97, 121, 32, 115, 104, 111, 119, 32, 100, 101, 97, 108, 32, 114, 97, 110, 107, 32, 115, 117, 105, 116, 32, 115, 105, 122, 101, 32, 99, 114, 105, 98, 32, 109, 111, 111, 100, 32, 112, 104, 97, 115, 101, 32, 100, 111, 110, 101, 32, 108, 97, 116, 101, 115, 116, 32, 99, 111, 117, 110, 116, 32, 116, 117, 114, 110, 32, 112, 101, 103, 115, 32, 99, 97, 114, 100, 32, 105, 102, 32, 116, 105, 109, 101, 115, 32, 98, 121, 32, 111, 114, 32, 97, 110, 100, 32, 110, 111, 116, 32]
def wdC (k : Nat) : Int32 := wdB.getD k 0
abbrev Mem : Type := (Nat → Nat → Int32) × (Nat → Nat → Int64) × (Nat → Nat → Option Nat) × (Nat → Nat)
def mI (M : Mem) (a k : Nat) : Int32 := M.1 a k
def mJ (M : Mem) (a k : Nat) : Int64 := M.2.1 a k
def mR (M : Mem) (a k : Nat) : Option Nat := M.2.2.1 a k
def mN (M : Mem) (a : Nat) : Nat := M.2.2.2 a
def up2 {α : Type} (f : Nat → Nat → α) (a k : Nat) (v : α) : Nat → Nat → α := fun b => if b = a then va_up (f b) k v else f b
def sI (M : Mem) (a k : Nat) (v : Int32) : Mem := (up2 M.1 a k v, M.2)
def sJ (M : Mem) (a k : Nat) (v : Int64) : Mem := (M.1, up2 M.2.1 a k v, M.2.2)
def sR (M : Mem) (a k : Nat) (v : Option Nat) : Mem := (M.1, M.2.1, up2 M.2.2.1 a k v, M.2.2.2)
def aI (M : Mem) (a : Nat) (g : Nat → Int32) : Mem := (va_up M.1 a g, M.2)
def aJ (M : Mem) (a : Nat) (g : Nat → Int64) : Mem := (M.1, va_up M.2.1 a g, M.2.2)
def lp {σ τ : Type} (step : σ → (σ → Option τ) → Option τ) : Nat → σ → Option τ
  | 0, _ => none
  | n + 1, s => step s (lp step n)
def jn {α τ : Type} (k : α → Option τ) (b : (α → Option τ) → Option τ) : Option τ := b k
def nm {α τ : Type} (e : α) (k : α → Option τ) : Option τ := k e
def gd {τ : Type} (b : Bool) (k : Option τ) : Option τ := if b = true then k else none
def inb (i : Int32) (n : Nat) : Bool := !decide (i < 0) && decide (i.toNatClampNeg < n)
abbrev ix (i : Int32) : Nat := i.toNatClampNeg
def irm (x y : Int32) : Int32 := x - x / y * y
def lrm (x y : Int64) : Int64 := x - x / y * y
def fuel : Nat := 1000000
def isB (v : Int32) : Bool := v == 0 || v == 1
def sw {τ : Type} (x : Int) : Int → List (Option τ) → Option τ → Option τ
  | _, [], d => d
  | lo, g :: gs, d => if x = lo then g else sw x (lo + 1) gs d
def lsw {τ : Type} (x : Int) : List (Int × Option τ) → Option τ → Option τ
  | [], d => d
  | g :: gs, d => if x = g.1 then g.2 else lsw x gs d
def bdM {ρ τ : Type} (g : Option (ρ × Mem)) (k : ρ → Mem → Option τ) : Option τ := g.bind (fun q => k q.1 q.2)
def wl0 {τ : Type} (step : (Option τ) → Option τ) : Nat → Option τ
  | 0 => none
  | n + 1 => step (wl0 step n)
def jn0 {τ : Type} (k : Option τ) (b : (Option τ) → Option τ) : Option τ := b k
def wl1 {Ty0 τ : Type} (step : Ty0 → (Ty0 → Option τ) → Option τ) : Nat → Ty0 → Option τ
  | 0, _ => none
  | n + 1, a0 => step a0 (wl1 step n)
def jn1 {Ty0 τ : Type} (k : Ty0 → Option τ) (b : (Ty0 → Option τ) → Option τ) : Option τ := b k
def wl2 {Ty0 Ty1 τ : Type} (step : Ty0 → Ty1 → (Ty0 → Ty1 → Option τ) → Option τ) : Nat → Ty0 → Ty1 → Option τ
  | 0, _, _ => none
  | n + 1, a0, a1 => step a0 a1 (wl2 step n)
def jn2 {Ty0 Ty1 τ : Type} (k : Ty0 → Ty1 → Option τ) (b : (Ty0 → Ty1 → Option τ) → Option τ) : Option τ := b k
def wl3 {Ty0 Ty1 Ty2 τ : Type} (step : Ty0 → Ty1 → Ty2 → (Ty0 → Ty1 → Ty2 → Option τ) → Option τ) : Nat → Ty0 → Ty1 → Ty2 → Option τ
  | 0, _, _, _ => none
  | n + 1, a0, a1, a2 => step a0 a1 a2 (wl3 step n)
def jn3 {Ty0 Ty1 Ty2 τ : Type} (k : Ty0 → Ty1 → Ty2 → Option τ) (b : (Ty0 → Ty1 → Ty2 → Option τ) → Option τ) : Option τ := b k
def wl4 {Ty0 Ty1 Ty2 Ty3 τ : Type} (step : Ty0 → Ty1 → Ty2 → Ty3 → (Ty0 → Ty1 → Ty2 → Ty3 → Option τ) → Option τ) : Nat → Ty0 → Ty1 → Ty2 → Ty3 → Option τ
  | 0, _, _, _, _ => none
  | n + 1, a0, a1, a2, a3 => step a0 a1 a2 a3 (wl4 step n)
def jn4 {Ty0 Ty1 Ty2 Ty3 τ : Type} (k : Ty0 → Ty1 → Ty2 → Ty3 → Option τ) (b : (Ty0 → Ty1 → Ty2 → Ty3 → Option τ) → Option τ) : Option τ := b k
def wl5 {Ty0 Ty1 Ty2 Ty3 Ty4 τ : Type} (step : Ty0 → Ty1 → Ty2 → Ty3 → Ty4 → (Ty0 → Ty1 → Ty2 → Ty3 → Ty4 → Option τ) → Option τ) : Nat → Ty0 → Ty1 → Ty2 → Ty3 → Ty4 → Option τ
  | 0, _, _, _, _, _ => none
  | n + 1, a0, a1, a2, a3, a4 => step a0 a1 a2 a3 a4 (wl5 step n)
def jn5 {Ty0 Ty1 Ty2 Ty3 Ty4 τ : Type} (k : Ty0 → Ty1 → Ty2 → Ty3 → Ty4 → Option τ) (b : (Ty0 → Ty1 → Ty2 → Ty3 → Ty4 → Option τ) → Option τ) : Option τ := b k
def wl6 {Ty0 Ty1 Ty2 Ty3 Ty4 Ty5 τ : Type} (step : Ty0 → Ty1 → Ty2 → Ty3 → Ty4 → Ty5 → (Ty0 → Ty1 → Ty2 → Ty3 → Ty4 → Ty5 → Option τ) → Option τ) : Nat → Ty0 → Ty1 → Ty2 → Ty3 → Ty4 → Ty5 → Option τ
  | 0, _, _, _, _, _, _ => none
  | n + 1, a0, a1, a2, a3, a4, a5 => step a0 a1 a2 a3 a4 a5 (wl6 step n)
def jn6 {Ty0 Ty1 Ty2 Ty3 Ty4 Ty5 τ : Type} (k : Ty0 → Ty1 → Ty2 → Ty3 → Ty4 → Ty5 → Option τ) (b : (Ty0 → Ty1 → Ty2 → Ty3 → Ty4 → Ty5 → Option τ) → Option τ) : Option τ := b k
def wl7 {Ty0 Ty1 Ty2 Ty3 Ty4 Ty5 Ty6 τ : Type} (step : Ty0 → Ty1 → Ty2 → Ty3 → Ty4 → Ty5 → Ty6 → (Ty0 → Ty1 → Ty2 → Ty3 → Ty4 → Ty5 → Ty6 → Option τ) → Option τ) : Nat → Ty0 → Ty1 → Ty2 → Ty3 → Ty4 → Ty5 → Ty6 → Option τ
  | 0, _, _, _, _, _, _, _ => none
  | n + 1, a0, a1, a2, a3, a4, a5, a6 => step a0 a1 a2 a3 a4 a5 a6 (wl7 step n)
def jn7 {Ty0 Ty1 Ty2 Ty3 Ty4 Ty5 Ty6 τ : Type} (k : Ty0 → Ty1 → Ty2 → Ty3 → Ty4 → Ty5 → Ty6 → Option τ) (b : (Ty0 → Ty1 → Ty2 → Ty3 → Ty4 → Ty5 → Ty6 → Option τ) → Option τ) : Option τ := b k
def wl8 {Ty0 Ty1 Ty2 Ty3 Ty4 Ty5 Ty6 Ty7 τ : Type} (step : Ty0 → Ty1 → Ty2 → Ty3 → Ty4 → Ty5 → Ty6 → Ty7 → (Ty0 → Ty1 → Ty2 → Ty3 → Ty4 → Ty5 → Ty6 → Ty7 → Option τ) → Option τ) : Nat → Ty0 → Ty1 → Ty2 → Ty3 → Ty4 → Ty5 → Ty6 → Ty7 → Option τ
  | 0, _, _, _, _, _, _, _, _ => none
  | n + 1, a0, a1, a2, a3, a4, a5, a6, a7 => step a0 a1 a2 a3 a4 a5 a6 a7 (wl8 step n)
def jn8 {Ty0 Ty1 Ty2 Ty3 Ty4 Ty5 Ty6 Ty7 τ : Type} (k : Ty0 → Ty1 → Ty2 → Ty3 → Ty4 → Ty5 → Ty6 → Ty7 → Option τ) (b : (Ty0 → Ty1 → Ty2 → Ty3 → Ty4 → Ty5 → Ty6 → Ty7 → Option τ) → Option τ) : Option τ := b k
def wl9 {Ty0 Ty1 Ty2 Ty3 Ty4 Ty5 Ty6 Ty7 Ty8 τ : Type} (step : Ty0 → Ty1 → Ty2 → Ty3 → Ty4 → Ty5 → Ty6 → Ty7 → Ty8 → (Ty0 → Ty1 → Ty2 → Ty3 → Ty4 → Ty5 → Ty6 → Ty7 → Ty8 → Option τ) → Option τ) : Nat → Ty0 → Ty1 → Ty2 → Ty3 → Ty4 → Ty5 → Ty6 → Ty7 → Ty8 → Option τ
  | 0, _, _, _, _, _, _, _, _, _ => none
  | n + 1, a0, a1, a2, a3, a4, a5, a6, a7, a8 => step a0 a1 a2 a3 a4 a5 a6 a7 a8 (wl9 step n)
def jn9 {Ty0 Ty1 Ty2 Ty3 Ty4 Ty5 Ty6 Ty7 Ty8 τ : Type} (k : Ty0 → Ty1 → Ty2 → Ty3 → Ty4 → Ty5 → Ty6 → Ty7 → Ty8 → Option τ) (b : (Ty0 → Ty1 → Ty2 → Ty3 → Ty4 → Ty5 → Ty6 → Ty7 → Ty8 → Option τ) → Option τ) : Option τ := b k
def wl10 {Ty0 Ty1 Ty2 Ty3 Ty4 Ty5 Ty6 Ty7 Ty8 Ty9 τ : Type} (step : Ty0 → Ty1 → Ty2 → Ty3 → Ty4 → Ty5 → Ty6 → Ty7 → Ty8 → Ty9 → (Ty0 → Ty1 → Ty2 → Ty3 → Ty4 → Ty5 → Ty6 → Ty7 → Ty8 → Ty9 → Option τ) → Option τ) : Nat → Ty0 → Ty1 → Ty2 → Ty3 → Ty4 → Ty5 → Ty6 → Ty7 → Ty8 → Ty9 → Option τ
  | 0, _, _, _, _, _, _, _, _, _, _ => none
  | n + 1, a0, a1, a2, a3, a4, a5, a6, a7, a8, a9 => step a0 a1 a2 a3 a4 a5 a6 a7 a8 a9 (wl10 step n)
def jn10 {Ty0 Ty1 Ty2 Ty3 Ty4 Ty5 Ty6 Ty7 Ty8 Ty9 τ : Type} (k : Ty0 → Ty1 → Ty2 → Ty3 → Ty4 → Ty5 → Ty6 → Ty7 → Ty8 → Ty9 → Option τ) (b : (Ty0 → Ty1 → Ty2 → Ty3 → Ty4 → Ty5 → Ty6 → Ty7 → Ty8 → Ty9 → Option τ) → Option τ) : Option τ := b k
def imx (x y : Int32) : Int32 := if x < y then y else x
def imn (x y : Int32) : Int32 := if y < x then y else x
def put (M : Mem) (t S : Nat) (U : Mem) : Mem := (fun a => if t ≤ a ∧ a < t + S then U.1 (a - t) else M.1 a, fun a => if t ≤ a ∧ a < t + S then U.2.1 (a - t) else M.2.1 a, fun a => if t ≤ a ∧ a < t + S then U.2.2.1 (a - t) else M.2.2.1 a, fun a => if t ≤ a ∧ a < t + S then U.2.2.2 (a - t) else M.2.2.2 a)
def Z0 : Mem := (fun _ _ => 0, fun _ _ => 0, fun _ _ => none, fun _ => 0)
def clrR (U : Mem) : Mem := (U.1, U.2.1, fun _ _ => none, U.2.2.2)
def fil (v : Mem) (c : Nat) : Mem := (va_up v.1 2 (fun k => if 18 ≤ k ∧ k < 18 + c then -1 else v.1 2 k), v.2)
def UZ_X8_init : Mem := (fun _ _ => 0, fun _ _ => 0, fun _ _ => none, fun _ => 0)
def vX8_init_0 : Mem := UZ_X8_init
def vX8_init_1 : Mem := vX8_init_0
def vX8_init_2 : Mem := vX8_init_1
def vX8_init_3 : Mem := vX8_init_2
def vX8_init_4 : Mem := sI vX8_init_3 0 5 0
def vX8_init_5 : Mem := sI vX8_init_4 0 6 1
def vX8_init_6 : Mem := sI vX8_init_5 0 7 (-1)
def vX8_init_7 : Mem := sI vX8_init_6 0 10 (-1)
def vX8_init_8 : Mem := sI vX8_init_7 0 11 (-1)
def T_X8_init : Mem := clrR vX8_init_8
def UZ_X7_init : Mem := (fun _ _ => 0, fun _ _ => 0, fun _ _ => none, fun _ => 0)
def vX7_init_0 : Mem := UZ_X7_init
def vX7_init_1 : Mem := vX7_init_0
def vX7_init_2 : Mem := vX7_init_1
def T_X7_init : Mem := clrR vX7_init_2
def UZ_X9_init_0 : Mem := (fun _ _ => 0, fun _ _ => 0, fun _ _ => none, fun o => if o = 1 then 800 else if o = 2 then 72 else 0)
def vX9_init_0_0 : Mem := UZ_X9_init_0
def vX9_init_0_1 : Mem := vX9_init_0_0
def vX9_init_0_2 : Mem := vX9_init_0_1
def T_X9_init_0 : Mem := clrR vX9_init_0_2
def UZ_X2_init : Mem := (fun _ _ => 0, fun _ _ => 0, fun _ _ => none, fun _ => 0)
def vX2_init_0 : Mem := UZ_X2_init
def vX2_init_1 : Mem := vX2_init_0
def vX2_init_2 : Mem := vX2_init_1
def vX2_init_3 : Mem := vX2_init_2
def vX2_init_4 : Mem := vX2_init_3
def vX2_init_5 : Mem := vX2_init_4
def T_X2_init : Mem := clrR vX2_init_5
def UZ_X3_init : Mem := (fun _ _ => 0, fun _ _ => 0, fun _ _ => none, fun _ => 0)
def vX3_init_0 : Mem := UZ_X3_init
def vX3_init_1 : Mem := vX3_init_0
def vX3_init_2 : Mem := vX3_init_1
def vX3_init_3 : Mem := vX3_init_2
def T_X3_init : Mem := clrR vX3_init_3
def UZ_X0_init : Mem := (fun _ _ => 0, fun _ _ => 0, fun _ _ => none, fun _ => 0)
def vX0_init_0 : Mem := UZ_X0_init
def vX0_init_1 : Mem := vX0_init_0
def vX0_init_2 : Mem := vX0_init_1
def vX0_init_3 : Mem := vX0_init_2
def vX0_init_4 : Mem := vX0_init_3
def T_X0_init : Mem := clrR vX0_init_4
def UZ_X10_init : Mem := (fun _ _ => 0, fun _ _ => 0, fun _ _ => none, fun _ => 0)
def vX10_init_0 : Mem := UZ_X10_init
def vX10_init_1 : Mem := put vX10_init_0 1 3 T_X7_init
def vX10_init_2 : Mem := vX10_init_1
def vX10_init_3 : Mem := vX10_init_2
def vX10_init_4 : Mem := vX10_init_3
def T_X10_init : Mem := clrR vX10_init_4
def UZ_X4_init : Mem := (fun _ _ => 0, fun _ _ => 0, fun _ _ => none, fun _ => 0)
def vX4_init_0 : Mem := UZ_X4_init
def vX4_init_1 : Mem := vX4_init_0
def vX4_init_2 : Mem := vX4_init_1
def vX4_init_3 : Mem := put vX4_init_2 3 4 T_X8_init
def vX4_init_4 : Mem := vX4_init_3
def vX4_init_5 : Mem := put vX4_init_4 7 4 T_X8_init
def vX4_init_6 : Mem := vX4_init_5
def vX4_init_7 : Mem := put vX4_init_6 11 4 T_X8_init
def vX4_init_8 : Mem := vX4_init_7
def vX4_init_9 : Mem := put vX4_init_8 15 4 T_X8_init
def vX4_init_10 : Mem := vX4_init_9
def vX4_init_11 : Mem := put vX4_init_10 19 4 T_X8_init
def vX4_init_12 : Mem := vX4_init_11
def vX4_init_13 : Mem := put vX4_init_12 23 4 T_X8_init
def vX4_init_14 : Mem := vX4_init_13
def vX4_init_15 : Mem := put vX4_init_14 27 4 T_X8_init
def vX4_init_16 : Mem := vX4_init_15
def vX4_init_17 : Mem := put vX4_init_16 31 4 T_X8_init
def vX4_init_18 : Mem := vX4_init_17
def vX4_init_19 : Mem := put vX4_init_18 35 4 T_X8_init
def vX4_init_20 : Mem := vX4_init_19
def vX4_init_21 : Mem := put vX4_init_20 39 4 T_X8_init
def vX4_init_22 : Mem := vX4_init_21
def vX4_init_23 : Mem := put vX4_init_22 43 4 T_X8_init
def vX4_init_24 : Mem := vX4_init_23
def vX4_init_25 : Mem := put vX4_init_24 47 4 T_X8_init
def vX4_init_26 : Mem := vX4_init_25
def vX4_init_27 : Mem := put vX4_init_26 51 4 T_X8_init
def vX4_init_28 : Mem := vX4_init_27
def vX4_init_29 : Mem := put vX4_init_28 55 4 T_X8_init
def vX4_init_30 : Mem := vX4_init_29
def vX4_init_31 : Mem := put vX4_init_30 59 4 T_X8_init
def vX4_init_32 : Mem := vX4_init_31
def vX4_init_33 : Mem := put vX4_init_32 63 4 T_X8_init
def vX4_init_34 : Mem := vX4_init_33
def T_X4_init : Mem := clrR vX4_init_34
def UZ_X6_init : Mem := (fun _ _ => 0, fun _ _ => 0, fun _ _ => none, fun _ => 0)
def vX6_init_0 : Mem := UZ_X6_init
def vX6_init_1 : Mem := put vX6_init_0 1 4 T_X8_init
def vX6_init_2 : Mem := vX6_init_1
def vX6_init_3 : Mem := vX6_init_2
def vX6_init_4 : Mem := vX6_init_3
def vX6_init_5 : Mem := vX6_init_4
def vX6_init_6 : Mem := sI vX6_init_5 8 0 1
def vX6_init_7 : Mem := sI vX6_init_6 8 1 0
def vX6_init_8 : Mem := sI vX6_init_7 8 2 15
def vX6_init_9 : Mem := vX6_init_8
def vX6_init_10 : Mem := sI vX6_init_9 0 8 (-1)
def T_X6_init : Mem := clrR vX6_init_10
def UZ_X5_init : Mem := (fun _ _ => 0, fun _ _ => 0, fun _ _ => none, fun o => if o = 3 then 800 else if o = 4 then 72 else 0)
def vX5_init_0 : Mem := UZ_X5_init
def vX5_init_1 : Mem := vX5_init_0
def vX5_init_2 : Mem := put vX5_init_1 2 3 T_X9_init_0
def vX5_init_3 : Mem := vX5_init_2
def vX5_init_4 : Mem := sI vX5_init_3 0 3 (-1)
def T_X5_init : Mem := clrR vX5_init_4
def UZ_X1_init : Mem := (fun _ _ => 0, fun _ _ => 0, fun _ _ => none, fun _ => 0)
def vX1_init_0 : Mem := UZ_X1_init
def vX1_init_1 : Mem := vX1_init_0
def vX1_init_2 : Mem := put vX1_init_1 2 4 T_X8_init
def vX1_init_3 : Mem := vX1_init_2
def vX1_init_4 : Mem := put vX1_init_3 6 4 T_X8_init
def vX1_init_5 : Mem := vX1_init_4
def vX1_init_6 : Mem := put vX1_init_5 10 4 T_X8_init
def vX1_init_7 : Mem := vX1_init_6
def vX1_init_8 : Mem := put vX1_init_7 14 4 T_X8_init
def vX1_init_9 : Mem := vX1_init_8
def vX1_init_10 : Mem := put vX1_init_9 18 4 T_X8_init
def vX1_init_11 : Mem := vX1_init_10
def vX1_init_12 : Mem := put vX1_init_11 22 4 T_X8_init
def vX1_init_13 : Mem := vX1_init_12
def vX1_init_14 : Mem := put vX1_init_13 26 4 T_X8_init
def vX1_init_15 : Mem := vX1_init_14
def vX1_init_16 : Mem := put vX1_init_15 30 4 T_X8_init
def vX1_init_17 : Mem := vX1_init_16
def vX1_init_18 : Mem := put vX1_init_17 34 4 T_X8_init
def vX1_init_19 : Mem := vX1_init_18
def T_X1_init : Mem := clrR vX1_init_19
def UZ_X11_init : Mem := (fun _ _ => 0, fun _ _ => 0, fun _ _ => none, fun o => if o = 174 then 800 else if o = 175 then 72 else 0)
def vX11_init_0 : Mem := UZ_X11_init
def vX11_init_1 : Mem := put vX11_init_0 1 9 T_X6_init
def vX11_init_2 : Mem := vX11_init_1
def vX11_init_3 : Mem := put vX11_init_2 11 9 T_X6_init
def vX11_init_4 : Mem := vX11_init_3
def vX11_init_5 : Mem := put vX11_init_4 20 9 T_X6_init
def vX11_init_6 : Mem := vX11_init_5
def vX11_init_7 : Mem := vX11_init_6
def vX11_init_8 : Mem := put vX11_init_7 29 67 T_X4_init
def vX11_init_9 : Mem := vX11_init_8
def vX11_init_10 : Mem := put vX11_init_9 96 67 T_X4_init
def vX11_init_11 : Mem := vX11_init_10
def vX11_init_12 : Mem := put vX11_init_11 163 4 T_X8_init
def vX11_init_13 : Mem := vX11_init_12
def vX11_init_14 : Mem := put vX11_init_13 167 4 T_X8_init
def vX11_init_15 : Mem := vX11_init_14
def vX11_init_16 : Mem := put vX11_init_15 171 5 T_X5_init
def vX11_init_17 : Mem := vX11_init_16
def vX11_init_18 : Mem := put vX11_init_17 176 3 T_X7_init
def vX11_init_19 : Mem := vX11_init_18
def vX11_init_20 : Mem := put vX11_init_19 179 12 T_X10_init
def vX11_init_21 : Mem := vX11_init_20
def vX11_init_22 : Mem := put vX11_init_21 191 12 T_X10_init
def vX11_init_23 : Mem := vX11_init_22
def vX11_init_24 : Mem := put vX11_init_23 203 6 T_X2_init
def vX11_init_25 : Mem := vX11_init_24
def vX11_init_26 : Mem := put vX11_init_25 209 19 T_X3_init
def vX11_init_27 : Mem := vX11_init_26
def vX11_init_28 : Mem := put vX11_init_27 228 9 T_X0_init
def vX11_init_29 : Mem := vX11_init_28
def vX11_init_30 : Mem := put vX11_init_29 237 38 T_X1_init
def vX11_init_31 : Mem := vX11_init_30
def vX11_init_32 : Mem := vX11_init_31
def vX11_init_33 : Mem := sI vX11_init_32 276 0 (-1)
def vX11_init_34 : Mem := sI vX11_init_33 276 1 (-1)
def vX11_init_35 : Mem := vX11_init_34
def vX11_init_36 : Mem := sI vX11_init_35 0 18 (-1)
def T_X11_init : Mem := clrR vX11_init_36
def UZ_X12_init : Mem := (fun _ _ => 0, fun _ _ => 0, fun _ _ => none, fun _ => 0)
def vX12_init_0 : Mem := UZ_X12_init
def vX12_init_1 : Mem := vX12_init_0
def vX12_init_2 : Mem := vX12_init_1
def vX12_init_3 : Mem := vX12_init_2
def vX12_init_4 : Mem := vX12_init_3
def vX12_init_5 : Mem := vX12_init_4
def vX12_init_6 : Mem := vX12_init_5
def vX12_init_7 : Mem := vX12_init_6
def vX12_init_8 : Mem := vX12_init_7
def vX12_init_9 : Mem := vX12_init_8
def vX12_init_10 : Mem := sI vX12_init_9 0 18 (-1)
def vX12_init_11 : Mem := vX12_init_10
def vX12_init_12 : Mem := vX12_init_11
def vX12_init_13 : Mem := vX12_init_12
def vX12_init_14 : Mem := vX12_init_13
def vX12_init_15 : Mem := vX12_init_14
def vX12_init_16 : Mem := sJ vX12_init_15 15 0 591307
def vX12_init_17 : Mem := sJ vX12_init_16 15 1 644404
def vX12_init_18 : Mem := sJ vX12_init_17 15 2 632645
def vX12_init_19 : Mem := sJ vX12_init_18 15 3 117026
def vX12_init_20 : Mem := sJ vX12_init_19 15 4 136236
def vX12_init_21 : Mem := sJ vX12_init_20 15 5 441828
def vX12_init_22 : Mem := vX12_init_21
def vX12_init_23 : Mem := sJ vX12_init_22 16 0 17040997
def vX12_init_24 : Mem := sJ vX12_init_23 16 1 146885
def vX12_init_25 : Mem := sJ vX12_init_24 16 2 404362868
def vX12_init_26 : Mem := sJ vX12_init_25 16 3 3659220
def vX12_init_27 : Mem := sJ vX12_init_26 16 4 677454
def vX12_init_28 : Mem := sJ vX12_init_27 16 5 529651
def vX12_init_29 : Mem := sJ vX12_init_28 16 6 99908
def vX12_init_30 : Mem := vX12_init_29
def vX12_init_31 : Mem := sJ vX12_init_30 17 0 23114405
def vX12_init_32 : Mem := sJ vX12_init_31 17 1 6751392942
def vX12_init_33 : Mem := sJ vX12_init_32 17 2 525618
def vX12_init_34 : Mem := sJ vX12_init_33 17 3 19118
def vX12_init_35 : Mem := sJ vX12_init_34 17 4 6706792
def vX12_init_36 : Mem := sJ vX12_init_35 17 5 14818
def vX12_init_37 : Mem := sJ vX12_init_36 17 6 67155
def vX12_init_38 : Mem := vX12_init_37
def vX12_init_39 : Mem := vX12_init_38
def vX12_init_40 : Mem := vX12_init_39
def vX12_init_41 : Mem := vX12_init_40
def vX12_init_42 : Mem := vX12_init_41
def vX12_init_43 : Mem := vX12_init_42
def vX12_init_44 : Mem := vX12_init_43
def vX12_init_45 : Mem := vX12_init_44
def vX12_init_46 : Mem := vX12_init_45
def vX12_init_47 : Mem := vX12_init_46
def vX12_init_48 : Mem := vX12_init_47
def vX12_init_49 : Mem := vX12_init_48
def vX12_init_50 : Mem := vX12_init_49
def vX12_init_51 : Mem := vX12_init_50
def vX12_init_52 : Mem := vX12_init_51
def vX12_init_53 : Mem := vX12_init_52
def vX12_init_54 : Mem := vX12_init_53
def vX12_init_55 : Mem := vX12_init_54
def vX12_init_56 : Mem := vX12_init_55
def vX12_init_57 : Mem := vX12_init_56
def vX12_init_58 : Mem := vX12_init_57
def vX12_init_59 : Mem := vX12_init_58
def vX12_init_60 : Mem := sJ vX12_init_59 39 0 136236
def vX12_init_61 : Mem := sJ vX12_init_60 39 1 12345
def vX12_init_62 : Mem := sJ vX12_init_61 39 2 536633
def vX12_init_63 : Mem := sJ vX12_init_62 39 3 631287
def vX12_init_64 : Mem := vX12_init_63
def vX12_init_65 : Mem := vX12_init_64
def vX12_init_66 : Mem := sI vX12_init_65 0 64 (-1)
def vX12_init_67 : Mem := vX12_init_66
def vX12_init_68 : Mem := sI vX12_init_67 2 2 (-1)
def vX12_init_69 : Mem := sI vX12_init_68 2 5 1
def vX12_init_70 : Mem := sI vX12_init_69 2 7 15
def vX12_init_71 : Mem := sI vX12_init_70 2 10 1
def vX12_init_72 : Mem := sI vX12_init_71 2 11 (-1)
def vX12_init_73 : Mem := sI vX12_init_72 2 14 (-1)
def vX12_init_74 : Mem := sI vX12_init_73 2 15 (-1)
def vX12_init_75 : Mem := fil vX12_init_74 52
def T_X12_init : Mem := clrR vX12_init_75
def FX11_isCard (p0 : Int32) : Option (Int32) :=
  jn1 (fun (v1 : Int32) =>
    gd (isB v1) <|
    some v1) fun j2 =>
  jn0 (
    j2 0) fun j5 =>
  if p0 < 0 then
    j5
  else
  if 52 ≤ p0 then
    j5
  else
  j2 1
def FX6_lawAt (t : Nat) (p1 : Int32) (M : Mem) : Option (Option Nat) :=
  jn1 (fun (v1 : Option Nat) =>
    some v1) fun j2 =>
  jn0 (
    j2 none) fun j4 =>
  if p1 < 0 then
    j4
  else
  if (mI M t 7) ≤ p1 then
    j4
  else
  if 6 ≤ p1 then
    j4
  else
  gd (inb p1 6) <|
  nm (mR M (t + 7) (ix p1)) fun v9 =>
  j2 v9
def FX6_term (t : Nat) (p1 : Int32) (M : Mem) : Option (Int32) :=
  jn1 (fun (v1 : Int32) =>
    some v1) fun j2 =>
  jn0 (
    j2 (mI M (t + 1) 12)) fun j4 =>
  if p1 < 1 then
    j4
  else
  if 4 ≤ p1 then
    j4
  else
  gd (inb (p1 - 1) 3) <|
  j2 (mI M (t + 8) (ix (p1 - 1)))
def FX10_setStandard (t : Nat) (M : Mem) : Option (Mem) :=
  nm (sJ M t 3 0) fun M1 =>
  wl2 (fun (v2 : Int32) (M3 : Mem) rec4 =>
    if 52 ≤ v2 then
      wl2 (fun (v6 : Int32) (M7 : Mem) rec8 =>
        if 3 ≤ v6 then
          some M7
        else
        wl2 (fun (v10 : Int32) (M11 : Mem) rec12 =>
          if 13 ≤ v10 then
            nm (v6 + 1) fun v14 =>
            rec8 v14 M11
          else
          nm ((v6 * 13) + v10) fun v15 =>
          gd (inb v15 39) <|
          nm (sI M11 ((t + 5) + 1 + 1 * 1) (ix v15) 2) fun M18 =>
          gd (inb v15 39) <|
          nm (sI M18 ((t + 5) + 1 + 1 * 2) (ix v15) 2) fun M22 =>
          gd (inb v15 39) <|
          nm (sI M22 ((t + 5) + 1 + 1 * 3) (ix v15) v10) fun M26 =>
          gd (inb v15 39) <|
          nm (sI M26 ((t + 5) + 1 + 1 * 4) (ix v15) (4 + (irm v10 2))) fun M30 =>
          gd (inb v15 39) <|
          nm (sI M30 ((t + 5) + 1 + 1 * 5) (ix v15) 1) fun M34 =>
          nm (v10 + 1) fun v36 =>
          rec12 v36 M34) fuel 0 M7) fuel 0 M3
    else
    gd (inb v2 52) <|
    nm (sI M3 (t + 4) (ix v2) (imn 10 ((v2 / 4) + 1))) fun M38 =>
    nm (v2 + 1) fun v40 =>
    rec4 v40 M38) fuel 0 M1
def FX7_tell (t : Nat) (p1 : Int32) (p2 : Int32) (M : Mem) : Option (Mem) :=
  jn1 (fun (M1 : Mem) =>
    some M1) fun j2 =>
  if p1 < 0 then
    j2 M
  else
  if 19 ≤ p1 then
    j2 M
  else
  gd (inb p1 19) <|
  nm (sI M (t + 1) (ix p1) p2) fun M6 =>
  j2 M6
def FX9_at (t : Nat) (p1 : Int32) (p2 : Int32) (M : Mem) : Option (Int32) :=
  nm ((p1 * 6) + p2) fun v1 =>
  jn1 (fun (v2 : Int32) =>
    some v2) fun j3 =>
  jn0 (
    j3 0) fun j5 =>
  if v1 < 0 then
    j5
  else
  if (Int32.ofNat (mN M (t + 2))) ≤ v1 then
    j5
  else
  gd (inb v1 (mN M (t + 2))) <|
  j3 (mI M (t + 2) (ix v1))
def FX7_push (t : Nat) (p1 : Int64) (M : Mem) : Option (Mem) :=
  jn1 (fun (M1 : Mem) =>
    some M1) fun j2 =>
  if 32 ≤ (mI M t 4) then
    j2 M
  else
  gd (inb (mI M t 4) 32) <|
  nm (sJ M (t + 2) (ix (mI M t 4)) p1) fun M5 =>
  nm (sI M5 t 4 ((mI M5 t 4) + 1)) fun M7 =>
  j2 M7
def FX7_told (t : Nat) (p1 : Int32) (M : Mem) : Option (Int32) :=
  jn1 (fun (v1 : Int32) =>
    some v1) fun j2 =>
  jn0 (
    j2 (-1)) fun j4 =>
  if p1 < 0 then
    j4
  else
  if 19 ≤ p1 then
    j4
  else
  gd (inb p1 19) <|
  j2 (mI M (t + 1) (ix p1))
def FX7_pop (t : Nat) (M : Mem) : Option (Int64 × Mem) :=
  if ¬ (mI M t 4) = 0 then
    nm (sI M t 4 ((mI M t 4) - 1)) fun M1 =>
    gd (inb (mI M1 t 4) 32) <|
    some ((mJ M1 (t + 2) (ix (mI M1 t 4))), M1)
  else
  some (0, M)
def FX7_join (t : Nat) (p1 : Int32) (M : Mem) : Option (Int32 × Mem) :=
  if 2 ≤ (mI M t 4) then
    gd (inb ((mI M t 4) - 2) 32) <|
    nm (mJ M (t + 2) (ix ((mI M t 4) - 2))) fun v3 =>
    gd (inb ((mI M t 4) - 1) 32) <|
    nm (mJ M (t + 2) (ix ((mI M t 4) - 1))) fun v6 =>
    jn0 (
      jn1 (fun (v9 : Int64) =>
        nm (sI M t 4 ((mI M t 4) - 1)) fun M12 =>
        gd (inb ((mI M12 t 4) - 1) 32) <|
        nm (sJ M12 (t + 2) (ix ((mI M12 t 4) - 1)) v9) fun M14 =>
        jn1 (fun (v16 : Int32) =>
          gd (isB v16) <|
          some (v16, M14)) fun j17 =>
        jn0 (
          j17 0) fun j20 =>
        if 1000000000 < v9 then
          j20
        else
        if v9 < (-1000000000) then
          j20
        else
        j17 1) fun j10 =>
      sw p1.toInt 2 [
        nm (v3 + v6) fun v25 =>
        j10 v25,
        nm (v3 - v6) fun v26 =>
        j10 v26,
        nm (v3 * v6) fun v27 =>
        j10 v27,
        jn1 (fun (v28 : Int64) =>
          j10 v28) fun j29 =>
        if ¬ v6 = 0 then
          gd (v6 != 0) <|
          j29 (v3 / v6)
        else
        j29 0,
        jn1 (fun (v32 : Int64) =>
          j10 v32) fun j33 =>
        if ¬ v6 = 0 then
          gd (v6 != 0) <|
          j33 (lrm v3 v6)
        else
        j33 0,
        jn1 (fun (v36 : Int64) =>
          j10 v36) fun j37 =>
        if v6 ≤ v3 then
          j37 0
        else
        j37 1,
        jn1 (fun (v39 : Int64) =>
          j10 v39) fun j40 =>
        if v3 ≤ v6 then
          j40 0
        else
        j40 1]
      (jn1 (fun (v22 : Int64) =>
          j10 v22) fun j23 =>
        if ¬ v3 = v6 then
          j23 0
        else
        j23 1)) fun j7 =>
    if ¬ v6 = 0 then
      j7
    else
    jn0 (
      some (0, M)) fun j42 =>
    if p1 = 5 then
      j42
    else
    if ¬ p1 = 6 then
      j7
    else
    j42
  else
  some (0, M)
def FX7_work (t : Nat) (p1 : Nat) (p2 : Int32) (p3 : Int32) (M : Mem) : Option (Int32 × Mem) :=
  nm (sI M t 4 0) fun M1 =>
  wl3 (fun (v2 : Int32) (v3 : Int32) (M4 : Mem) rec5 =>
    jn0 (
      bdM (FX7_pop t M4) fun r10 M9 =>
      nm (sI M9 t 5 (r10.toInt32)) fun M11 =>
      some (1, M11)) fun j7 =>
    if 400 ≤ v3 then
      j7
    else
    if v2 < 0 then
      j7
    else
    if p3 ≤ v2 then
      j7
    else
    if (Int32.ofNat (mN M4 (p1 + 1))) ≤ (v2 + 1) then
      j7
    else
    gd (inb v2 (mN M4 (p1 + 1))) <|
    nm (mI M4 (p1 + 1) (ix v2)) fun v15 =>
    gd (inb (v2 + 1) (mN M4 (p1 + 1))) <|
    nm (mI M4 (p1 + 1) (ix (v2 + 1))) fun v18 =>
    nm (v2 + 2) fun v19 =>
    jn2 (fun (v20 : Int32) (M21 : Mem) =>
      nm (v3 + 1) fun v24 =>
      rec5 v20 v24 M21) fun j22 =>
    if ¬ v15 = 0 then
      if ¬ v15 = 1 then
        if ¬ v15 = 10 then
          jn0 (
            bdM (FX7_pop t M4) fun r28 M27 =>
            jn1 (fun (v29 : Int32) =>
              jn1 (fun (v32 : Int32) =>
                jn2 (fun (v35 : Int32) (M36 : Mem) =>
                  j22 v35 M36) fun j37 =>
                if ¬ v29 = v32 then
                  j37 v19 M27
                else
                (FX7_push t r28 M27).bind fun M39 =>
                j37 v18 M39) fun j33 =>
              if ¬ v15 = 12 then
                j33 0
              else
              j33 1) fun j30 =>
            if r28 = 0 then
              j30 0
            else
            j30 1) fun j25 =>
          if v15 = 11 then
            j25
          else
          if ¬ v15 = 12 then
            bdM (FX7_join t v15 M4) fun r41 M40 =>
            if ¬ r41 = 0 then
              j22 v19 M40
            else
            some (0, M40)
          else
          j25
        else
        bdM (FX7_pop t M4) fun r43 M42 =>
        (FX7_push t (1 - r43) M42).bind fun M44 =>
        j22 v19 M44
      else
      (FX7_told t v18 M4).bind fun r45 =>
      (FX7_push t (r45.toInt64) M4).bind fun M46 =>
      j22 v19 M46
    else
    (FX7_push t (v18.toInt64) M4).bind fun M47 =>
    j22 v19 M47) fuel p2 0 M1
def FX7_isSo (t : Nat) (p1 : Nat) (p2 : Int32) (M : Mem) : Option (Int32 × Mem) :=
  (FX9_at p1 p2 4 M).bind fun r1 =>
  (FX9_at p1 p2 5 M).bind fun r2 =>
  jn2 (fun (v3 : Int32) (M4 : Mem) =>
    gd (isB v3) <|
    some (v3, M4)) fun j5 =>
  jn1 (fun (M8 : Mem) =>
    j5 1 M8) fun j9 =>
  if r1 = r2 then
    j9 M
  else
  bdM (FX7_work t p1 r1 r2 M) fun r12 M11 =>
  jn0 (
    j5 0 M11) fun j13 =>
  if r12 = 0 then
    j13
  else
  if (mI M11 t 5) = 0 then
    j13
  else
  j9 M11
def FX7_workBoth (t : Nat) (p1 : Nat) (p2 : Int32) (M : Mem) : Option (Int32 × Mem) :=
  (FX9_at p1 p2 2 M).bind fun r1 =>
  (FX9_at p1 p2 3 M).bind fun r2 =>
  bdM (FX7_work t p1 r1 r2 M) fun r4 M3 =>
  nm (sI M3 t 2 (mI M3 t 5)) fun M5 =>
  jn2 (fun (v6 : Int32) (M7 : Mem) =>
    nm (sI M7 t 3 (mI M7 t 5)) fun M10 =>
    gd (isB v6) <|
    some (v6, M10)) fun j8 =>
  jn1 (fun (M12 : Mem) =>
    j8 0 M12) fun j13 =>
  if r4 = 0 then
    j13 M5
  else
  (FX9_at p1 p2 3 M5).bind fun r15 =>
  (FX9_at p1 p2 4 M5).bind fun r16 =>
  bdM (FX7_work t p1 r15 r16 M5) fun r18 M17 =>
  if r18 = 0 then
    j13 M17
  else
  j8 1 M17
def FX10_holds (t : Nat) (p1 : Nat) (p2 : Int32) (M : Mem) : Option (Int32 × Mem) :=
  bdM (FX7_isSo (t + 1) p1 p2 M) fun r3 M2 =>
  jn2 (fun (v4 : Int32) (M5 : Mem) =>
    gd (isB v4) <|
    some (v4, M5)) fun j6 =>
  jn1 (fun (M9 : Mem) =>
    j6 0 M9) fun j10 =>
  if r3 = 0 then
    j10 M2
  else
  bdM (FX7_workBoth (t + 1) p1 p2 M2) fun r14 M13 =>
  if r14 = 0 then
    j10 M13
  else
  j6 1 M13
def FX11_bit (p0 : Int32) : Option (Int64) :=
  (FX11_isCard p0).bind fun r1 =>
  jn1 (fun (v2 : Int64) =>
    some v2) fun j3 =>
  if r1 = 0 then
    j3 0
  else
  j3 ((1 : Int64) <<< (p0.toInt64 &&& 63))
def FX11_within (p0 : Int32) (p1 : Int32) (p2 : Int32) : Option (Int32) :=
  some (imx p1 (imn p2 p0))
def FX10_askOfCards (t : Nat) (p1 : Nat) (p2 : Int32) (p3 : Int32) (M : Mem) : Option (Mem) :=
  (FX7_tell (t + 1) 3 (-1) M).bind fun M2 =>
  (FX7_tell (t + 1) 4 (-1) M2).bind fun M4 =>
  wl2 (fun (v5 : Int32) (M6 : Mem) rec7 =>
    if 52 ≤ v5 then
      some M6
    else
    (FX7_tell (t + 1) 1 (v5 / 4) M6).bind fun M10 =>
    (FX7_tell (t + 1) 2 (irm v5 4) M10).bind fun M12 =>
    bdM (FX10_holds t p1 p2 M12) fun r14 M13 =>
    jn1 (fun (M15 : Mem) =>
      nm (v5 + 1) fun v18 =>
      rec7 v18 M15) fun j16 =>
    if ¬ r14 = 0 then
      if ¬ p3 = 6 then
        (FX11_within (mI M13 (t + 1) 2) 1 31).bind fun r21 =>
        gd (inb v5 52) <|
        nm (sI M13 (t + 4) (ix v5) r21) fun M22 =>
        j16 M22
      else
      (FX11_bit v5).bind fun r24 =>
      nm (sJ M13 t 3 ((mJ M13 t 3) ||| r24)) fun M25 =>
      j16 M25
    else
    j16 M13) fuel 0 M4
def FX10_tellItem (t : Nat) (p1 : Int32) (p2 : Int32) (M : Mem) : Option (Mem) :=
  jn1 (fun (v1 : Int32) =>
    jn1 (fun (v4 : Int32) =>
      jn1 (fun (v8 : Int32) =>
        (FX7_tell (t + 1) 1 v8 M).bind fun M11 =>
        (FX7_tell (t + 1) 2 v1 M11).bind fun M13 =>
        (FX7_tell (t + 1) 3 v4 M13).bind fun M15 =>
        some M15) fun j9 =>
      if ¬ p1 = 2 then
        j9 (-1)
      else
      j9 p2) fun j5 =>
    if ¬ p1 = 4 then
      if ¬ p1 = 2 then
        if ¬ p1 = 5 then
          j5 p2
        else
        j5 (-1)
      else
      j5 2
    else
    j5 (4 + (irm p2 2))) fun j2 =>
  if ¬ p1 = 5 then
    if ¬ p1 = 4 then
      j2 (-1)
    else
    j2 (p2 / 2)
  else
  j2 p2
def FX10_askOfCounts (t : Nat) (p1 : Nat) (p2 : Int32) (p3 : Int32) (M : Mem) : Option (Mem) :=
  jn0 (
    some M) fun j1 =>
  if p3 < 0 then
    j1
  else
  if p3 < 6 then
    wl2 (fun (v3 : Int32) (M4 : Mem) rec5 =>
      if 3 ≤ v3 then
        some M4
      else
      jn1 (fun (v8 : Int32) =>
        (FX7_tell (t + 1) 4 v8 M4).bind fun M11 =>
        gd (inb p3 6) <|
        nm (([0, 1, 0, 3, 0, 0] : List Int32).getD (ix p3) 0) fun v13 =>
        wl2 (fun (v14 : Int32) (M15 : Mem) rec16 =>
          gd (inb p3 6) <|
          if (([0, 9, 13, 9, 8, 4] : List Int32).getD (ix p3) 0) ≤ v14 then
            nm (v3 + 1) fun v19 =>
            rec5 v19 M15
          else
          (FX10_tellItem t p3 v14 M15).bind fun M20 =>
          bdM (FX10_holds t p1 p2 M20) fun r22 M21 =>
          jn1 (fun (M23 : Mem) =>
            nm (v14 + 1) fun v26 =>
            rec16 v26 M23) fun j24 =>
          if r22 = 0 then
            j24 M21
          else
          gd (inb p3 6) <|
          (FX11_within (mI M21 (t + 1) 2) 0 99).bind fun r31 =>
          gd (inb ((v3 * 13) + v14) 39) <|
          nm (sI M21 ((t + 5) + 1 + 1 * (ix p3)) (ix ((v3 * 13) + v14)) r31) fun M32 =>
          j24 M32) fuel v13 M11) fun j9 =>
      if ¬ v3 = 1 then
        if ¬ v3 = 0 then
          j9 (-1)
        else
        j9 0
      else
      j9 1) fuel 0 M
  else
  j1
def FX10_fit (t : Nat) (p1 : Nat) (p2 : Int32) (p3 : Nat) (M : Mem) : Option (Mem) :=
  (FX6_lawAt p1 p2 M).bind fun r1 =>
  nm (mI M p3 12) fun v3 =>
  (FX6_term p1 2 M).bind fun r4 =>
  (FX6_term p1 3 M).bind fun r5 =>
  nm (sI M t 4 r5) fun M6 =>
  jn1 (fun (v7 : Int32) =>
    jn0 (
      nm (sI M6 t 5 1) fun M12 =>
      nm (sR M12 t 6 r1) fun M13 =>
      nm (sI M13 t 7 v3) fun M14 =>
      nm (sI M14 t 8 r4) fun M15 =>
      (FX10_setStandard t M15).bind fun M16 =>
      (FX7_tell (t + 1) 0 (mI M16 t 7) M16).bind fun M18 =>
      (FX7_tell (t + 1) 5 (mI M18 t 8) M18).bind fun M20 =>
      wl2 (fun (v21 : Int32) (M22 : Mem) rec23 =>
        jn0 (
          some M22) fun j25 =>
        if r1 = none then
          j25
        else
        r1.bind fun b28 =>
        if (mI M22 b28 3) ≤ v21 then
          j25
        else
        (FX9_at b28 v21 0 M22).bind fun r31 =>
        jn1 (fun (M32 : Mem) =>
          nm (v21 + 1) fun v35 =>
          rec23 v35 M32) fun j33 =>
        jn0 (
          (FX10_askOfCards t b28 v21 r31 M22).bind fun M38 =>
          j33 M38) fun j36 =>
        if r31 = 0 then
          j36
        else
        if ¬ r31 = 6 then
          (FX10_askOfCounts t b28 v21 r31 M22).bind fun M39 =>
          j33 M39
        else
        j36) fuel 0 M20) fun j10 =>
    if (mI M6 t 5) = 0 then
      j10
    else
    nm (mR M6 t 6) fun v40 =>
    if v40 = r1 then
      if v7 = 0 then
        j10
      else
      some M6
    else
    j10) fun j8 =>
  jn0 (
    j8 1) fun j43 =>
  if r1 = none then
    j43
  else
  r1.bind fun b46 =>
  if (mI M6 b46 4) = 0 then
    j43
  else
  jn0 (
    j8 0) fun j49 =>
  if ¬ (mI M6 t 7) = v3 then
    j49
  else
  if ¬ (mI M6 t 8) = r4 then
    j49
  else
  j43
def FX10_valueOf (t : Nat) (p1 : Int32) (M : Mem) : Option (Int32) :=
  (FX11_isCard p1).bind fun r1 =>
  jn1 (fun (v2 : Int32) =>
    some v2) fun j3 =>
  if r1 = 0 then
    j3 1
  else
  gd (inb p1 52) <|
  j3 (mI M (t + 4) (ix p1))
def FX11_has (p0 : Int64) (p2 : Int32) : Option (Int32) :=
  (FX11_isCard p2).bind fun r1 =>
  jn1 (fun (v2 : Int32) =>
    gd (isB v2) <|
    some v2) fun j3 =>
  jn0 (
    j3 0) fun j6 =>
  if r1 = 0 then
    j6
  else
  if ¬ ((p0 >>> (p2.toInt64 &&& 63)) &&& 1) = 1 then
    j6
  else
  j3 1
def FX8_placeOf (t : Nat) (p1 : Int32) (M : Mem) : Option (Int32) :=
  (FX11_has (mJ M (t + 1) 0) p1).bind fun r2 =>
  if r2 = 0 then
    (FX11_has (mJ M (t + 1) 1) p1).bind fun r4 =>
    if r4 = 0 then
      (FX11_has (mJ M t 3) p1).bind fun r5 =>
      if r5 = 0 then
        jn1 (fun (v6 : Int32) =>
          some v6) fun j7 =>
        if ¬ p1 = (mI M t 7) then
          j7 (-1)
        else
        j7 3
      else
      some 2
    else
    some 1
  else
  some 0
def FX11_card (t : Nat) (p1 : Int32) (p2 : Int32) (M : Mem) : Option (Int32 × Mem) :=
  (FX11_isCard p1).bind fun r1 =>
  if ¬ r1 = 0 then
    sw p2.toInt 0 [
      (FX10_fit (t + 179) (t + 1) (mI M (t + 1) 8) ((t + 1) + 1) M).bind fun M7 =>
      (FX10_valueOf (t + 179) p1 M7).bind fun r9 =>
      some (r9, M7),
      (FX10_fit (t + 179) (t + 1) (mI M (t + 1) 8) ((t + 1) + 1) M).bind fun M15 =>
      (FX11_has (mJ M15 (t + 179) 3) p1).bind fun r17 =>
      jn1 (fun (v18 : Int32) =>
        some (v18, M15)) fun j19 =>
      if r17 = 0 then
        j19 0
      else
      j19 1,
      (FX8_placeOf ((t + 1) + 1) p1 M).bind fun r23 =>
      some (r23, M),
      (FX11_has (mJ M ((t + 1) + 1) 4) p1).bind fun r26 =>
      jn1 (fun (v27 : Int32) =>
        some (v27, M)) fun j28 =>
      if r26 = 0 then
        j28 0
      else
      j28 1,
      (FX11_has (mJ M (t + 1) 5) p1).bind fun r31 =>
      jn1 (fun (v32 : Int32) =>
        some (v32, M)) fun j33 =>
      if r31 = 0 then
        j33 0
      else
      j33 1]
    (some ((-1), M))
  else
  some ((-1), M)
def FX11_isPlayer (p0 : Int32) : Option (Int32) :=
  jn1 (fun (v1 : Int32) =>
    gd (isB v1) <|
    some v1) fun j2 =>
  jn0 (
    j2 1) fun j5 =>
  if p0 = 0 then
    j5
  else
  if ¬ p0 = 1 then
    j2 0
  else
  j5
def FJ_Long_bitCount (p0 : Int64) : Option (Int32) :=
  nm (p0 - (((p0.toUInt64 >>> ((1 : Int32).toInt64.toUInt64 &&& Int64.toUInt64 63)).toInt64) &&& 6148914691236517205)) fun v1 =>
  nm ((v1 &&& 3689348814741910323) + (((v1.toUInt64 >>> ((2 : Int32).toInt64.toUInt64 &&& Int64.toUInt64 63)).toInt64) &&& 3689348814741910323)) fun v2 =>
  nm ((v2 + ((v2.toUInt64 >>> ((4 : Int32).toInt64.toUInt64 &&& Int64.toUInt64 63)).toInt64)) &&& 1085102592571150095) fun v3 =>
  nm (v3 + ((v3.toUInt64 >>> ((8 : Int32).toInt64.toUInt64 &&& Int64.toUInt64 63)).toInt64)) fun v4 =>
  nm (v4 + ((v4.toUInt64 >>> ((16 : Int32).toInt64.toUInt64 &&& Int64.toUInt64 63)).toInt64)) fun v5 =>
  nm (v5 + ((v5.toUInt64 >>> ((32 : Int32).toInt64.toUInt64 &&& Int64.toUInt64 63)).toInt64)) fun v6 =>
  some ((v6.toInt32) &&& 127)
def FX11_lowest (p0 : Int64) : Option (Int32) :=
  jn1 (fun (v1 : Int32) =>
    some v1) fun j2 =>
  if ¬ p0 = 0 then
    (FJ_Long_bitCount ((p0 &&& (-p0)) - 1)).bind fun r4 =>
    j2 r4
  else
  j2 (-1)
def FX11_cardAt (p0 : Int64) (p2 : Int32) : Option (Int32) :=
  jn0 (
    some (-1)) fun j1 =>
  if p2 < 0 then
    j1
  else
  if p2 < 52 then
    wl2 (fun (v3 : Int64) (v4 : Int32) rec5 =>
      if p2 ≤ v4 then
        (FX11_lowest v3).bind fun r7 =>
        some r7
      else
      nm (v3 &&& (v3 - 1)) fun v8 =>
      nm (v4 + 1) fun v9 =>
      rec5 v8 v9) fuel p0 0
  else
  j1
def FX11_hand (t : Nat) (p1 : Int32) (p2 : Int32) (M : Mem) : Option (Int32) :=
  (FX11_isPlayer p1).bind fun r1 =>
  jn0 (
    some (-1)) fun j2 =>
  if r1 = 0 then
    j2
  else
  if p2 < 0 then
    j2
  else
  if p2 ≤ 8 then
    gd (inb p1 2) <|
    nm (mJ M (((t + 1) + 1) + 1) (ix p1)) fun v8 =>
    if ¬ p2 = 0 then
      if ¬ p2 = 7 then
        if ¬ p2 = 8 then
          (FX11_cardAt v8 (p2 - 1)).bind fun r9 =>
          some r9
        else
        (FJ_Long_bitCount (v8 &&& ((mJ M ((t + 1) + 1) 4) ^^^ (-1)))).bind fun r10 =>
        some r10
      else
      gd (inb p1 2) <|
      some (mI M (((t + 1) + 1) + 2) (ix p1))
    else
    (FJ_Long_bitCount v8).bind fun r13 =>
    some r13
  else
  j2
def FX11_count (t : Nat) (p1 : Int32) (M : Mem) : Option (Int32) :=
  sw p1.toInt 0 [
    some (mI M ((t + 1) + 1) 5),
    some (mI M ((t + 1) + 1) 6),
    some (mI M ((t + 1) + 1) 7),
    (FJ_Long_bitCount (mJ M ((t + 1) + 1) 3)).bind fun r3 =>
    some r3,
    some (mI M ((t + 1) + 1) 9),
    some (mI M ((t + 1) + 1) 8),
    some (mI M ((t + 1) + 1) 10),
    some (mI M ((t + 1) + 1) 11),
    (FJ_Long_bitCount (mJ M (t + 1) 5)).bind fun r5 =>
    some r5,
    some (mI M (t + 1) 6),
    some (mI M (t + 1) 7),
    some (mI M (t + 29) 3),
    some (mI M (t + 171) 2),
    gd (inb (p1 - 13) 5) <|
    some (mI M (t + 275) (ix (p1 - 13))),
    gd (inb (p1 - 13) 5) <|
    some (mI M (t + 275) (ix (p1 - 13))),
    gd (inb (p1 - 13) 5) <|
    some (mI M (t + 275) (ix (p1 - 13))),
    gd (inb (p1 - 13) 5) <|
    some (mI M (t + 275) (ix (p1 - 13))),
    gd (inb (p1 - 13) 5) <|
    some (mI M (t + 275) (ix (p1 - 13))),
    some (mI M (t + 1) 8),
    (FX6_term (t + 1) (p1 - 19) M).bind fun r22 =>
    some r22,
    (FX6_term (t + 1) (p1 - 19) M).bind fun r24 =>
    some r24,
    (FX6_term (t + 1) (p1 - 19) M).bind fun r26 =>
    some r26,
    (FX6_term (t + 1) (p1 - 19) M).bind fun r28 =>
    some r28]
  (some (-1))
def FX11_status (t : Nat) (M : Mem) : Option (Int32) :=
  some (mI M t 16)
def FX11_refuse (t : Nat) (p1 : Int32) (M : Mem) : Option (Int32 × Mem) :=
  nm (sI M t 16 p1) fun M1 =>
  wl2 (fun (v2 : Int32) (M3 : Mem) rec4 =>
    if 5 ≤ v2 then
      some (p1, M3)
    else
    gd (inb v2 5) <|
    jn1 (fun (M7 : Mem) =>
      nm (v2 + 1) fun v10 =>
      rec4 v10 M7) fun j8 =>
    if ¬ (([-1, -2, -3, -5, -6] : List Int32).getD (ix v2) 0) = p1 then
      j8 M3
    else
    gd (inb v2 5) <|
    gd (inb v2 5) <|
    nm (sI M3 (t + 275) (ix v2) ((mI M3 (t + 275) (ix v2)) + 1)) fun M13 =>
    j8 M13) fuel 0 M1
def FX6_setTerm (t : Nat) (p1 : Int32) (p2 : Int32) (M : Mem) : Option (Mem) :=
  jn1 (fun (M1 : Mem) =>
    some M1) fun j2 =>
  jn0 (
    nm (sI M (t + 1) 12 p2) fun M7 =>
    j2 M7) fun j4 =>
  if p1 < 1 then
    j4
  else
  if 4 ≤ p1 then
    j4
  else
  gd (inb (p1 - 1) 3) <|
  nm (sI M (t + 8) (ix (p1 - 1)) p2) fun M9 =>
  j2 M9
def FX4_clear (t : Nat) (M : Mem) : Option (Mem) :=
  nm (sI M t 3 0) fun M1 =>
  some M1
def FX11_grant (t : Nat) (p1 : Int32) (M : Mem) : Option (Int32 × Mem) :=
  nm (sI M t 16 0) fun M1 =>
  some (p1, M1)
def FX11_terms (t : Nat) (p1 : Int32) (p2 : Int32) (M : Mem) : Option (Int32 × Mem) :=
  jn0 (
    bdM (FX11_refuse t (-1) M) fun r4 M3 =>
    some (r4, M3)) fun j1 =>
  if p1 < 0 then
    j1
  else
  if 4 ≤ p1 then
    j1
  else
  gd (inb p1 4) <|
  if p2 < (([0, 0, 0, 5] : List Int32).getD (ix p1) 0) then
    j1
  else
  gd (inb p1 4) <|
  if p2 ≤ (([999, 10, 9, 31] : List Int32).getD (ix p1) 0) then
    (FX6_term (t + 1) p1 M).bind fun r8 =>
    (FX6_setTerm (t + 1) p1 p2 M).bind fun M10 =>
    (FX4_clear (t + 29) M10).bind fun M12 =>
    bdM (FX11_grant t r8 M12) fun r14 M13 =>
    some (r14, M13)
  else
  j1
def FX5_append (t : Nat) (p1 : Int32) (M : Mem) : Option (Mem) :=
  wl2 (fun (v1 : Int32) (M2 : Mem) rec3 =>
    jn0 (
      some M2) fun j5 =>
    if v1 < 0 then
      j5
    else
    if 400 ≤ (mI M2 t 2) then
      j5
    else
    gd (inb (mI M2 t 2) 400) <|
    nm (sI M2 (t + 1) (ix (mI M2 t 2)) ((p1 >>> (v1 &&& 31)) &&& 255)) fun M8 =>
    nm (sI M8 t 2 ((mI M8 t 2) + 1)) fun M10 =>
    nm (v1 + (-8)) fun v11 =>
    rec3 v11 M10) fuel 24 M
def FX11_feed (t : Nat) (p1 : Int32) (p2 : Int32) (p3 : Int32) (p4 : Int32) (p5 : Int32) (M : Mem) : Option (Int32 × Mem) :=
  if ((mI M (t + 171) 2) + 20) ≤ 400 then
    (FX5_append (t + 171) p1 M).bind fun M3 =>
    (FX5_append (t + 171) p2 M3).bind fun M5 =>
    (FX5_append (t + 171) p3 M5).bind fun M7 =>
    (FX5_append (t + 171) p4 M7).bind fun M9 =>
    (FX5_append (t + 171) p5 M9).bind fun M11 =>
    some ((mI M11 (t + 171) 2), M11)
  else
  some ((-1), M)
def FX11_end (t : Nat) (p1 : Int32) (M : Mem) : Option (Int32 × Mem) :=
  jn0 (
    some ((-1), M)) fun j1 =>
  if p1 < 0 then
    j1
  else
  if p1 ≤ (mI M (t + 171) 2) then
    nm (sI M (t + 171) 2 p1) fun M5 =>
    some (p1, M5)
  else
  j1
def FX11_row (t : Nat) (M : Mem) : Option (Int32 × Mem) :=
  if ¬ (mI M (t + 171) 2) = 0 then
    wl3 (fun (v2 : Int64) (v3 : Int32) (v4 : Int32) rec5 =>
      jn0 (
        nm (sJ M (t + 1) 5 v2) fun M11 =>
        nm (sI M11 t 17 v3) fun M12 =>
        nm (sI M12 (t + 171) 2 0) fun M14 =>
        (FJ_Long_bitCount v2).bind fun r15 =>
        bdM (FX11_grant t r15 M14) fun r17 M16 =>
        some (r17, M16)) fun j8 =>
      if (mI M (t + 171) 2) ≤ v4 then
        j8
      else
      if 400 ≤ v4 then
        j8
      else
      gd (inb v4 400) <|
      nm (mI M ((t + 171) + 1) (ix v4)) fun v21 =>
      (FX11_isCard v21).bind fun r22 =>
      jn2 (fun (v23 : Int64) (v24 : Int32) =>
        nm (v4 + 1) fun v27 =>
        rec5 v23 v24 v27) fun j25 =>
      jn0 (
        nm (v3 + 1) fun v30 =>
        j25 v2 v30) fun j28 =>
      if r22 = 0 then
        j28
      else
      (FX11_has v2 v21).bind fun r31 =>
      if ¬ r31 = 0 then
        j28
      else
      (FJ_Long_bitCount v2).bind fun r32 =>
      if 6 ≤ r32 then
        j28
      else
      (FX11_bit v21).bind fun r33 =>
      nm (v2 ||| r33) fun v34 =>
      j25 v34 v3) fuel 0 0 0
  else
  bdM (FX11_refuse t (-6) M) fun r36 M35 =>
  some (r36, M35)
def FX11_jokers (t : Nat) (M : Mem) : Option (Int32) :=
  some (mI M t 17)
def FX5_isLetter (p0 : Int32) : Option (Int32) :=
  jn1 (fun (v1 : Int32) =>
    gd (isB v1) <|
    some v1) fun j2 =>
  jn0 (
    j2 0) fun j5 =>
  if p0 < 97 then
    j5
  else
  if 122 < p0 then
    j5
  else
  j2 1
def FX5_wordAt (t : Nat) (M : Mem) : Option (Int32) :=
  nm ((mI M t 7) - (mI M t 6)) fun v1 =>
  wl3 (fun (v2 : Int32) (v3 : Int32) (v4 : Int32) rec5 =>
    if 144 ≤ v4 then
      some (-1)
    else
    gd (inb v4 144) <|
    nm (wdC (ix v4)) fun v8 =>
    jn2 (fun (v9 : Int32) (v10 : Int32) =>
      nm (v4 + 1) fun v13 =>
      rec5 v9 v10 v13) fun j11 =>
    if ¬ v8 = 32 then
      jn1 (fun (v14 : Int32) =>
        j11 v2 v14) fun j15 =>
      jn0 (
        j15 (-1)) fun j17 =>
      if v3 < 0 then
        j17
      else
      if v1 ≤ v3 then
        j17
      else
      gd (inb ((mI M t 6) + v3) 400) <|
      if ¬ (mI M (t + 1) (ix ((mI M t 6) + v3))) = v8 then
        j17
      else
      j15 (v3 + 1)
    else
    if ¬ v3 = v1 then
      nm (v2 + 1) fun v21 =>
      j11 v21 0
    else
    some v2) fuel 0 0 0
def FX5_isDigit (p0 : Int32) : Option (Int32) :=
  jn1 (fun (v1 : Int32) =>
    gd (isB v1) <|
    some v1) fun j2 =>
  jn0 (
    j2 0) fun j5 =>
  if p0 < 48 then
    j5
  else
  if 57 < p0 then
    j5
  else
  j2 1
def FX5_numberAt (t : Nat) (M : Mem) : Option (Int32) :=
  nm (mI M t 6) fun v1 =>
  wl2 (fun (v2 : Int32) (v3 : Int32) rec4 =>
    jn0 (
      some v2) fun j6 =>
    if (mI M t 7) ≤ v3 then
      j6
    else
    if 400 ≤ v3 then
      j6
    else
    gd (inb v3 400) <|
    nm (imn 1001 (((v2 * 10) + (mI M (t + 1) (ix v3))) - 48)) fun v10 =>
    nm (v3 + 1) fun v11 =>
    rec4 v10 v11) fuel 0 v1
def FX5_advance (t : Nat) (M : Mem) : Option (Int32 × Mem) :=
  nm (sI M t 6 (mI M t 7)) fun M1 =>
  wl1 (fun (M2 : Mem) rec3 =>
    jn0 (
      if (mI M2 t 6) < (mI M2 t 2) then
        nm (sI M2 t 7 ((mI M2 t 6) + 1)) fun M7 =>
        gd (inb (mI M7 t 6) 400) <|
        (FX5_isLetter (mI M7 (t + 1) (ix (mI M7 t 6)))).bind fun r10 =>
        jn1 (fun (M11 : Mem) =>
          some (1, M11)) fun j12 =>
        if r10 = 0 then
          gd (inb (mI M7 t 6) 400) <|
          (FX5_isDigit (mI M7 (t + 1) (ix (mI M7 t 6)))).bind fun r16 =>
          if r16 = 0 then
            nm (sI M7 t 8 3) fun M17 =>
            gd (inb (mI M17 t 6) 400) <|
            nm (sI M17 t 9 (mI M17 (t + 1) (ix (mI M17 t 6)))) fun M20 =>
            j12 M20
          else
          wl1 (fun (M21 : Mem) rec22 =>
            jn0 (
              nm (sI M21 t 8 2) fun M26 =>
              (FX5_numberAt t M26).bind fun r27 =>
              nm (sI M26 t 9 r27) fun M28 =>
              j12 M28) fun j24 =>
            if (mI M21 t 2) ≤ (mI M21 t 7) then
              j24
            else
            gd (inb (mI M21 t 7) 400) <|
            (FX5_isDigit (mI M21 (t + 1) (ix (mI M21 t 7)))).bind fun r31 =>
            if r31 = 0 then
              j24
            else
            nm (sI M21 t 7 ((mI M21 t 7) + 1)) fun M32 =>
            rec22 M32) fuel M7
        else
        wl1 (fun (M33 : Mem) rec34 =>
          jn0 (
            nm (sI M33 t 8 1) fun M38 =>
            (FX5_wordAt t M38).bind fun r39 =>
            nm (sI M38 t 9 r39) fun M40 =>
            j12 M40) fun j36 =>
          if (mI M33 t 2) ≤ (mI M33 t 7) then
            j36
          else
          gd (inb (mI M33 t 7) 400) <|
          (FX5_isLetter (mI M33 (t + 1) (ix (mI M33 t 7)))).bind fun r43 =>
          if r43 = 0 then
            j36
          else
          nm (sI M33 t 7 ((mI M33 t 7) + 1)) fun M44 =>
          rec34 M44) fuel M7
      else
      nm (sI M2 t 7 (mI M2 t 2)) fun M45 =>
      nm (sI M45 t 6 (mI M45 t 2)) fun M46 =>
      nm (sI M46 t 8 0) fun M47 =>
      some (1, M47)) fun j5 =>
    if (mI M2 t 2) ≤ (mI M2 t 6) then
      j5
    else
    gd (inb (mI M2 t 6) 400) <|
    if ¬ (mI M2 (t + 1) (ix (mI M2 t 6))) = 32 then
      j5
    else
    nm (sI M2 t 6 ((mI M2 t 6) + 1)) fun M50 =>
    rec3 M50) fuel M1
def FX9_mark (t : Nat) (p1 : Int32) (p2 : Int32) (M : Mem) : Option (Mem) :=
  nm (((mI M t 3) * 6) + p1) fun v1 =>
  jn1 (fun (M2 : Mem) =>
    some M2) fun j3 =>
  if v1 < 0 then
    j3 M
  else
  if (Int32.ofNat (mN M (t + 2))) ≤ v1 then
    j3 M
  else
  gd (inb v1 (mN M (t + 2))) <|
  nm (sI M (t + 2) (ix v1) p2) fun M7 =>
  j3 M7
def FX5_isSign (t : Nat) (p1 : Int32) (M : Mem) : Option (Int32) :=
  jn1 (fun (v1 : Int32) =>
    gd (isB v1) <|
    some v1) fun j2 =>
  jn0 (
    j2 0) fun j5 =>
  if ¬ (mI M t 8) = 3 then
    j5
  else
  if ¬ (mI M t 9) = p1 then
    j5
  else
  j2 1
def FX5_skipSign (t : Nat) (p1 : Int32) (M : Mem) : Option (Int32 × Mem) :=
  (FX5_isSign t p1 M).bind fun r1 =>
  jn2 (fun (v2 : Int32) (M3 : Mem) =>
    gd (isB v2) <|
    some (v2, M3)) fun j4 =>
  jn1 (fun (M7 : Mem) =>
    j4 0 M7) fun j8 =>
  if r1 = 0 then
    j8 M
  else
  bdM (FX5_advance t M) fun r11 M10 =>
  if r11 = 0 then
    j8 M10
  else
  j4 1 M10
def FX9_put (t : Nat) (p1 : Int32) (p2 : Int32) (M : Mem) : Option (Int32 × Mem) :=
  nm (mI M t 2) fun v1 =>
  jn1 (fun (M3 : Mem) =>
    some (v1, M3)) fun j4 =>
  if (Int32.ofNat (mN M (t + 1))) ≤ ((mI M t 2) + 1) then
    j4 M
  else
  gd (inb (mI M t 2) (mN M (t + 1))) <|
  nm (sI M (t + 1) (ix (mI M t 2)) p1) fun M7 =>
  gd (inb ((mI M7 t 2) + 1) (mN M7 (t + 1))) <|
  nm (sI M7 (t + 1) (ix ((mI M7 t 2) + 1)) p2) fun M10 =>
  nm (sI M10 t 2 ((mI M10 t 2) + 2)) fun M12 =>
  j4 M12
def FX5_readLawWord (t : Nat) (M : Mem) : Option (Int32 × Mem) :=
  jn0 (
    some (0, M)) fun j1 =>
  if (mI M t 9) < 10 then
    j1
  else
  if (mI M t 9) ≤ 15 then
    jn1 (fun (v5 : Int32) =>
      gd (isB v5) <|
      nm (sI M (t + 2) 4 v5) fun M8 =>
      bdM (FX9_put (t + 2) 1 ((mI M8 t 9) - 10) M8) fun r12 M11 =>
      bdM (FX5_advance t M11) fun r14 M13 =>
      gd (isB r14) <|
      some (r14, M13)) fun j6 =>
    jn0 (
      j6 1) fun j16 =>
    if ¬ (mI M (t + 2) 4) = 0 then
      j16
    else
    if (mI M t 9) = 10 then
      j16
    else
    if ¬ (mI M t 9) = 15 then
      j6 0
    else
    j16
  else
  j1
def FX5_readOrdersWord (t : Nat) (M : Mem) : Option (Int32 × Mem) :=
  jn0 (
    some (0, M)) fun j1 =>
  if (mI M t 9) < 16 then
    j1
  else
  if (mI M t 9) ≤ 22 then
    nm ((mI M t 9) - 16) fun v3 =>
    jn2 (fun (v4 : Int32) (M5 : Mem) =>
      bdM (FX9_put (t + 2) 1 v4 M5) fun r10 M9 =>
      bdM (FX5_advance t M9) fun r12 M11 =>
      gd (isB r12) <|
      some (r12, M11)) fun j6 =>
    jn0 (
      jn1 (fun (v16 : Int32) =>
        jn1 (fun (v19 : Int32) =>
          bdM (FX5_advance t M) fun r23 M22 =>
          jn0 (
            some (0, M22)) fun j24 =>
          if ¬ (mI M22 t 8) = 2 then
            j24
          else
          if (mI M22 t 9) < v19 then
            nm (v16 + (mI M22 t 9)) fun v26 =>
            j6 v26 M22
          else
          j24) fun j20 =>
        if ¬ (mI M t 9) = 21 then
          j20 12
        else
        j20 2) fun j17 =>
      if ¬ (mI M t 9) = 21 then
        j17 7
      else
      j17 5) fun j14 =>
    if (mI M t 9) = 21 then
      j14
    else
    if ¬ (mI M t 9) = 22 then
      j6 v3 M
    else
    j14
  else
  j1
def FX5_readPart (t : Nat) (p1 : Int32) (rS : Nat → Int32 → Mem → Option (Int32 × Mem)) (M : Mem) : Option (Int32 × Mem) :=
  (FX5_isSign t 91 M).bind fun r1 =>
  if r1 = 0 then
    if (mI M t 5) < 50 then
      nm (sI M t 5 ((mI M t 5) + 1)) fun M2 =>
      jn0 (
        jn2 (fun (v5 : Int32) (M6 : Mem) =>
          gd (isB v5) <|
          some (v5, M6)) fun j7 =>
        jn1 (fun (M10 : Mem) =>
          j7 0 M10) fun j11 =>
        if ¬ (mI M2 t 8) = 1 then
          j11 M2
        else
        jn1 (fun (M13 : Mem) =>
          j7 1 M13) fun j14 =>
        if (mI M2 t 4) = 0 then
          bdM (FX5_readOrdersWord t M2) fun r17 M16 =>
          if r17 = 0 then
            j11 M16
          else
          j14 M16
        else
        bdM (FX5_readLawWord t M2) fun r19 M18 =>
        if r19 = 0 then
          j11 M18
        else
        j14 M18) fun j3 =>
      if ¬ (mI M2 t 8) = 2 then
        j3
      else
      if 1000 < (mI M2 t 9) then
        j3
      else
      bdM (FX9_put (t + 2) 0 (mI M2 t 9) M2) fun r22 M21 =>
      bdM (FX5_advance t M21) fun r24 M23 =>
      gd (isB r24) <|
      some (r24, M23)
    else
    some (0, M)
  else
  jn2 (fun (v26 : Int32) (M27 : Mem) =>
    gd (isB v26) <|
    some (v26, M27)) fun j28 =>
  jn1 (fun (M31 : Mem) =>
    j28 0 M31) fun j32 =>
  if 8 ≤ p1 then
    j32 M
  else
  bdM (FX5_advance t M) fun r35 M34 =>
  if r35 = 0 then
    j32 M34
  else
  bdM (rS t (p1 + 1) M34) fun r37 M36 =>
  if r37 = 0 then
    j32 M36
  else
  bdM (FX5_skipSign t 93 M36) fun r39 M38 =>
  if r39 = 0 then
    j32 M38
  else
  j28 1 M38
def FX5_readTerm (t : Nat) (p1 : Int32) (rS : Nat → Int32 → Mem → Option (Int32 × Mem)) (M : Mem) : Option (Int32 × Mem) :=
  bdM (FX5_readPart t p1 rS M) fun r2 M1 =>
  wl3 (fun (v3 : Int32) (v4 : Int32) (M5 : Mem) rec6 =>
    jn0 (
      gd (isB v3) <|
      some (v3, M5)) fun j8 =>
    if 400 ≤ v4 then
      j8
    else
    if v3 = 0 then
      j8
    else
    (FX5_isSign t 42 M5).bind fun r11 =>
    jn0 (
      (FX5_isSign t 42 M5).bind fun r14 =>
      jn1 (fun (v15 : Int32) =>
        bdM (FX5_advance t M5) fun r19 M18 =>
        bdM (FX5_readPart t p1 rS M18) fun r21 M20 =>
        bdM (FX9_put (t + 2) v15 0 M20) fun r24 M23 =>
        nm (v4 + 1) fun v25 =>
        rec6 r21 v25 M23) fun j16 =>
      if r14 = 0 then
        (FX5_isSign t 47 M5).bind fun r26 =>
        if r26 = 0 then
          j16 6
        else
        j16 5
      else
      j16 4) fun j12 =>
    if ¬ r11 = 0 then
      j12
    else
    (FX5_isSign t 47 M5).bind fun r27 =>
    if ¬ r27 = 0 then
      j12
    else
    (FX5_isSign t 37 M5).bind fun r28 =>
    if r28 = 0 then
      j8
    else
    j12) fuel r2 0 M1
def FX5_readSum (t : Nat) (p1 : Int32) (rS : Nat → Int32 → Mem → Option (Int32 × Mem)) (M : Mem) : Option (Int32 × Mem) :=
  bdM (FX5_readTerm t p1 rS M) fun r2 M1 =>
  wl3 (fun (v3 : Int32) (v4 : Int32) (M5 : Mem) rec6 =>
    jn0 (
      gd (isB v3) <|
      some (v3, M5)) fun j8 =>
    if 400 ≤ v4 then
      j8
    else
    if v3 = 0 then
      j8
    else
    (FX5_isSign t 43 M5).bind fun r11 =>
    jn0 (
      (FX5_isSign t 43 M5).bind fun r14 =>
      jn1 (fun (v15 : Int32) =>
        bdM (FX5_advance t M5) fun r19 M18 =>
        bdM (FX5_readTerm t p1 rS M18) fun r21 M20 =>
        bdM (FX9_put (t + 2) v15 0 M20) fun r24 M23 =>
        nm (v4 + 1) fun v25 =>
        rec6 r21 v25 M23) fun j16 =>
      if r14 = 0 then
        j16 3
      else
      j16 2) fun j12 =>
    if ¬ r11 = 0 then
      j12
    else
    (FX5_isSign t 45 M5).bind fun r26 =>
    if r26 = 0 then
      j8
    else
    j12) fuel r2 0 M1
def GX5_readSum : Nat → Nat → Int32 → Mem → Option (Int32 × Mem)
  | 0 => fun _ _ _ => none
  | n + 1 => fun t p1 M => FX5_readSum t p1 (GX5_readSum n) M
def FX5_readSumR (t : Nat) (p1 : Int32) (M : Mem) : Option (Int32 × Mem) := GX5_readSum 10 t p1 M
def FX5_skipWord (t : Nat) (p1 : Int32) (M : Mem) : Option (Int32 × Mem) :=
  jn2 (fun (v1 : Int32) (M2 : Mem) =>
    gd (isB v1) <|
    some (v1, M2)) fun j3 =>
  jn1 (fun (M6 : Mem) =>
    j3 0 M6) fun j7 =>
  if ¬ (mI M t 8) = 1 then
    j7 M
  else
  if ¬ (mI M t 9) = p1 then
    j7 M
  else
  bdM (FX5_advance t M) fun r10 M9 =>
  if r10 = 0 then
    j7 M9
  else
  j3 1 M9
def FX5_readTimes (t : Nat) (M : Mem) : Option (Int32 × Mem) :=
  jn0 (
    some (0, M)) fun j1 =>
  if ¬ (mI M t 8) = 2 then
    j1
  else
  if (mI M t 9) < 1 then
    j1
  else
  if (mI M t 9) ≤ 20 then
    (FX9_mark (t + 2) 1 (mI M t 9) M).bind fun M4 =>
    bdM (FX5_advance t M4) fun r6 M5 =>
    gd (isB r6) <|
    some (r6, M5)
  else
  j1
def FX5_readPlain (t : Nat) (p1 : Int32) (rT : Nat → Int32 → Mem → Option (Int32 × Mem)) (M : Mem) : Option (Int32 × Mem) :=
  wl3 (fun (v1 : Int32) (v2 : Int32) (M3 : Mem) rec4 =>
    jn1 (fun (M6 : Mem) =>
      (FX5_isSign t 40 M6).bind fun r9 =>
      jn2 (fun (v10 : Int32) (M11 : Mem) =>
        jn1 (fun (M14 : Mem) =>
          gd (isB v10) <|
          some (v10, M14)) fun j15 =>
        if v1 = 0 then
          j15 M11
        else
        bdM (FX9_put (t + 2) 10 0 M11) fun r20 M19 =>
        j15 M19) fun j12 =>
      if r9 = 0 then
        bdM (FX5_readSumR t p1 M6) fun r22 M21 =>
        (FX5_isSign t 60 M21).bind fun r23 =>
        jn1 (fun (v24 : Int32) =>
          jn2 (fun (v27 : Int32) (M28 : Mem) =>
            bdM (FX9_put (t + 2) v24 0 M28) fun r33 M32 =>
            j12 v27 M32) fun j29 =>
          jn1 (fun (M34 : Mem) =>
            j29 0 M34) fun j35 =>
          if r22 = 0 then
            j35 M21
          else
          jn0 (
            bdM (FX5_advance t M21) fun r40 M39 =>
            if r40 = 0 then
              j35 M39
            else
            bdM (FX5_readSumR t p1 M39) fun r42 M41 =>
            if r42 = 0 then
              j35 M41
            else
            j29 1 M41) fun j37 =>
          if ¬ v24 = 9 then
            j37
          else
          (FX5_isSign t 61 M21).bind fun r43 =>
          if r43 = 0 then
            j35 M21
          else
          j37) fun j25 =>
        if r23 = 0 then
          (FX5_isSign t 62 M21).bind fun r44 =>
          if r44 = 0 then
            j25 9
          else
          j25 8
        else
        j25 7
      else
      jn2 (fun (v45 : Int32) (M46 : Mem) =>
        j12 v45 M46) fun j47 =>
      jn1 (fun (M49 : Mem) =>
        j47 0 M49) fun j50 =>
      if 8 ≤ p1 then
        j50 M6
      else
      bdM (FX5_advance t M6) fun r53 M52 =>
      if r53 = 0 then
        j50 M52
      else
      bdM (rT t (p1 + 1) M52) fun r55 M54 =>
      if r55 = 0 then
        j50 M54
      else
      bdM (FX5_skipSign t 41 M54) fun r57 M56 =>
      if r57 = 0 then
        j50 M56
      else
      j47 1 M56) fun j7 =>
    if 400 ≤ v2 then
      j7 M3
    else
    bdM (FX5_skipWord t 28 M3) fun r59 M58 =>
    if r59 = 0 then
      j7 M58
    else
    jn1 (fun (v60 : Int32) =>
      nm (v2 + 1) fun v63 =>
      rec4 v60 v63 M58) fun j61 =>
    if ¬ v1 = 0 then
      j61 0
    else
    j61 1) fuel 0 0 M
def FX9_leaveToHere (t : Nat) (p1 : Int32) (M : Mem) : Option (Mem) :=
  jn1 (fun (M1 : Mem) =>
    some M1) fun j2 =>
  if p1 < 0 then
    j2 M
  else
  if (Int32.ofNat (mN M (t + 1))) ≤ (p1 + 1) then
    j2 M
  else
  gd (inb (p1 + 1) (mN M (t + 1))) <|
  nm (sI M (t + 1) (ix (p1 + 1)) (mI M t 2)) fun M6 =>
  j2 M6
def FX5_readBoth (t : Nat) (p1 : Int32) (rT : Nat → Int32 → Mem → Option (Int32 × Mem)) (M : Mem) : Option (Int32 × Mem) :=
  bdM (FX5_readPlain t p1 rT M) fun r2 M1 =>
  wl3 (fun (v3 : Int32) (v4 : Int32) (M5 : Mem) rec6 =>
    jn1 (fun (M8 : Mem) =>
      gd (isB v3) <|
      some (v3, M8)) fun j9 =>
    if 400 ≤ v4 then
      j9 M5
    else
    if v3 = 0 then
      j9 M5
    else
    bdM (FX5_skipWord t 27 M5) fun r13 M12 =>
    if r13 = 0 then
      j9 M12
    else
    bdM (FX9_put (t + 2) 11 0 M12) fun r16 M15 =>
    bdM (FX5_readPlain t p1 rT M15) fun r18 M17 =>
    (FX9_leaveToHere (t + 2) r16 M17).bind fun M20 =>
    nm (v4 + 1) fun v21 =>
    rec6 r18 v21 M20) fuel r2 0 M1
def FX5_readTest (t : Nat) (p1 : Int32) (rT : Nat → Int32 → Mem → Option (Int32 × Mem)) (M : Mem) : Option (Int32 × Mem) :=
  bdM (FX5_readBoth t p1 rT M) fun r2 M1 =>
  wl3 (fun (v3 : Int32) (v4 : Int32) (M5 : Mem) rec6 =>
    jn1 (fun (M8 : Mem) =>
      gd (isB v3) <|
      some (v3, M8)) fun j9 =>
    if 400 ≤ v4 then
      j9 M5
    else
    if v3 = 0 then
      j9 M5
    else
    bdM (FX5_skipWord t 26 M5) fun r13 M12 =>
    if r13 = 0 then
      j9 M12
    else
    bdM (FX9_put (t + 2) 12 0 M12) fun r16 M15 =>
    bdM (FX5_readBoth t p1 rT M15) fun r18 M17 =>
    (FX9_leaveToHere (t + 2) r16 M17).bind fun M20 =>
    nm (v4 + 1) fun v21 =>
    rec6 r18 v21 M20) fuel r2 0 M1
def GX5_readTest : Nat → Nat → Int32 → Mem → Option (Int32 × Mem)
  | 0 => fun _ _ _ => none
  | n + 1 => fun t p1 M => FX5_readTest t p1 (GX5_readTest n) M
def FX5_readTestR (t : Nat) (p1 : Int32) (M : Mem) : Option (Int32 × Mem) := GX5_readTest 10 t p1 M
def FX5_readClause (t : Nat) (M : Mem) : Option (Int32 × Mem) :=
  jn0 (
    some (0, M)) fun j2 =>
  if 12 ≤ (mI M (t + 2) 3) then
    j2
  else
  if (mI M t 8) = 1 then
    nm (mI M t 9) fun v4 =>
    jn1 (fun (v5 : Int32) =>
      jn0 (
        some (0, M)) fun j8 =>
      if v4 < v5 then
        j8
      else
      jn1 (fun (v10 : Int32) =>
        if v4 ≤ v10 then
          (FX9_mark (t + 2) 0 v4 M).bind fun M14 =>
          (FX9_mark (t + 2) 1 1 M14).bind fun M16 =>
          bdM (FX5_advance t M16) fun r18 M17 =>
          (FX9_mark (t + 2) 2 (mI M17 (t + 2) 2) M17).bind fun M21 =>
          jn1 (fun (M22 : Mem) =>
            (FX9_mark (t + 2) 3 (mI M22 (t + 2) 2) M22).bind fun M27 =>
            jn1 (fun (M28 : Mem) =>
              jn1 (fun (M31 : Mem) =>
                (FX9_mark (t + 2) 4 (mI M31 (t + 2) 2) M31).bind fun M36 =>
                bdM (FX5_skipWord t 23 M36) fun r38 M37 =>
                jn1 (fun (M39 : Mem) =>
                  (FX9_mark (t + 2) 5 (mI M39 (t + 2) 2) M39).bind fun M44 =>
                  nm (sI M44 (t + 2) 3 ((mI M44 (t + 2) 3) + 1)) fun M46 =>
                  some (1, M46)) fun j40 =>
                if r38 = 0 then
                  j40 M37
                else
                bdM (FX5_readTestR t 0 M37) fun r48 M47 =>
                if ¬ r48 = 0 then
                  j40 M47
                else
                some (0, M47)) fun j32 =>
              if ¬ (mI M28 t 4) = 0 then
                j32 M28
              else
              bdM (FX5_skipWord t 24 M28) fun r50 M49 =>
              if r50 = 0 then
                j32 M49
              else
              bdM (FX5_readTimes t M49) fun r52 M51 =>
              if ¬ r52 = 0 then
                j32 M51
              else
              some (0, M51)) fun j29 =>
            jn0 (
              bdM (FX5_skipWord t 25 M27) fun r56 M55 =>
              jn1 (fun (M57 : Mem) =>
                some (0, M57)) fun j58 =>
              if r56 = 0 then
                j58 M55
              else
              bdM (FX5_readSumR t 0 M55) fun r61 M60 =>
              if ¬ r61 = 0 then
                j29 M60
              else
              j58 M60) fun j53 =>
            if v4 = 7 then
              j53
            else
            if ¬ v4 = 8 then
              j29 M27
            else
            j53) fun j23 =>
          if v4 = 6 then
            j23 M21
          else
          if v4 = 9 then
            j23 M21
          else
          bdM (FX5_readSumR t 0 M21) fun r63 M62 =>
          if ¬ r63 = 0 then
            j23 M62
          else
          some (0, M62)
        else
        j8) fun j11 =>
      if (mI M t 4) = 0 then
        j11 10
      else
      j11 6) fun j6 =>
    if (mI M t 4) = 0 then
      j6 7
    else
    j6 0
  else
  j2
def FX5_readText (t : Nat) (p1 : Int32) (M : Mem) : Option (Int32 × Mem) :=
  gd (isB p1) <|
  nm (sI M t 4 p1) fun M1 =>
  nm (sI M1 t 5 0) fun M3 =>
  nm (sI M3 t 7 0) fun M4 =>
  nm (sI M4 (t + 2) 2 0) fun M6 =>
  nm (sI M6 (t + 2) 3 0) fun M8 =>
  nm (sI M8 (t + 2) 4 0) fun M10 =>
  bdM (FX5_advance t M10) fun r12 M11 =>
  bdM (FX5_readClause t M11) fun r14 M13 =>
  wl3 (fun (v15 : Int32) (v16 : Int32) (M17 : Mem) rec18 =>
    jn1 (fun (M20 : Mem) =>
      jn1 (fun (v23 : Int32) =>
        jn1 (fun (v26 : Int32) =>
          nm (sI M20 t 3 v26) fun M29 =>
          nm (sI M29 t 2 0) fun M30 =>
          gd (isB v23) <|
          some (v23, M30)) fun j27 =>
        if v23 = 0 then
          j27 (mI M20 t 6)
        else
        j27 (-1)) fun j24 =>
      jn0 (
        j24 0) fun j32 =>
      if v15 = 0 then
        j32
      else
      if ¬ (mI M20 t 8) = 0 then
        j32
      else
      j24 1) fun j21 =>
    if 400 ≤ v16 then
      j21 M17
    else
    if v15 = 0 then
      j21 M17
    else
    bdM (FX5_skipSign t 59 M17) fun r35 M34 =>
    if r35 = 0 then
      j21 M34
    else
    bdM (FX5_readClause t M34) fun r37 M36 =>
    nm (v16 + 1) fun v38 =>
    rec18 r37 v38 M36) fuel r14 0 M13
def FX8_copyFrom (t : Nat) (p1 : Nat) (M : Mem) : Option (Mem) :=
  nm (aJ M (t + 1) (va_cpy (mJ M (p1 + 1)) (mJ M (t + 1)) 0 0 2)) fun M3 =>
  nm (aI M3 (t + 2) (va_cpy (mI M3 (p1 + 2)) (mI M3 (t + 2)) 0 0 2)) fun M6 =>
  nm (aI M6 (t + 3) (va_cpy (mI M6 (p1 + 3)) (mI M6 (t + 3)) 0 0 8)) fun M10 =>
  nm (sJ M10 t 3 (mJ M10 p1 3)) fun M11 =>
  nm (sJ M11 t 4 (mJ M11 p1 4)) fun M12 =>
  nm (sI M12 t 5 (mI M12 p1 5)) fun M13 =>
  nm (sI M13 t 6 (mI M13 p1 6)) fun M14 =>
  nm (sI M14 t 7 (mI M14 p1 7)) fun M15 =>
  nm (sI M15 t 8 (mI M15 p1 8)) fun M16 =>
  nm (sI M16 t 9 (mI M16 p1 9)) fun M17 =>
  nm (sI M17 t 10 (mI M17 p1 10)) fun M18 =>
  nm (sI M18 t 11 (mI M18 p1 11)) fun M19 =>
  nm (sI M19 t 12 (mI M19 p1 12)) fun M20 =>
  some M20
def FX4_copyFrom (t : Nat) (p1 : Nat) (M : Mem) : Option (Mem) :=
  nm (sI M t 2 (mI M p1 2)) fun M1 =>
  nm (sI M1 t 3 (mI M1 p1 3)) fun M2 =>
  wl2 (fun (v3 : Int32) (M4 : Mem) rec5 =>
    if (mI M4 t 3) ≤ v3 then
      some M4
    else
    nm (irm ((mI M4 t 2) + v3) 16) fun v7 =>
    gd (inb v7 16) <|
    gd (inb v7 16) <|
    (FX8_copyFrom ((t + 1) + 2 + 4 * (ix v7)) ((p1 + 1) + 2 + 4 * (ix v7)) M4).bind fun M14 =>
    gd (inb v7 16) <|
    gd (inb v7 16) <|
    nm (sI M14 (t + 2) (ix v7) (mI M14 (p1 + 2) (ix v7))) fun M18 =>
    nm (v3 + 1) fun v20 =>
    rec5 v20 M18) fuel 0 M2
def FX11_tellTable (t : Nat) (M : Mem) : Option (Mem) :=
  (FX7_tell (t + 176) 0 (mI M ((t + 1) + 1) 5) M).bind fun M4 =>
  (FX7_tell (t + 176) 3 (mI M4 ((t + 1) + 1) 9) M4).bind fun M6 =>
  (FX7_tell (t + 176) 4 (mI M6 ((t + 1) + 1) 10) M6).bind fun M8 =>
  wl2 (fun (v9 : Int32) (M10 : Mem) rec11 =>
    if 2 ≤ v9 then
      some M10
    else
    gd (inb v9 2) <|
    (FX7_tell (t + 176) (5 + v9) (mI M10 (((t + 1) + 1) + 2) (ix v9)) M10).bind fun M16 =>
    wl2 (fun (v17 : Int32) (M18 : Mem) rec19 =>
      if 6 ≤ v17 then
        nm (v9 + 1) fun v21 =>
        rec11 v21 M18
      else
      gd (inb v9 2) <|
      (FX11_cardAt (mJ M18 (((t + 1) + 1) + 1) (ix v9)) v17).bind fun r25 =>
      (FX7_tell (t + 176) ((7 + (6 * v9)) + v17) r25 M18).bind fun M26 =>
      nm (v17 + 1) fun v27 =>
      rec19 v27 M26) fuel 0 M16) fuel 0 M8
def FX4_push (t : Nat) (p1 : Nat) (p2 : Int32) (M : Mem) : Option (Mem) :=
  jn1 (fun (M1 : Mem) =>
    nm (irm ((mI M1 t 2) + (mI M1 t 3)) 16) fun v4 =>
    gd (inb v4 16) <|
    (FX8_copyFrom ((t + 1) + 2 + 4 * (ix v4)) p1 M1).bind fun M8 =>
    gd (inb v4 16) <|
    nm (sI M8 (t + 2) (ix v4) p2) fun M10 =>
    nm (sI M10 t 3 ((mI M10 t 3) + 1)) fun M12 =>
    some M12) fun j2 =>
  if ¬ (mI M t 3) = 16 then
    j2 M
  else
  nm (sI M t 2 (irm ((mI M t 2) + 1) 16)) fun M13 =>
  nm (sI M13 t 3 ((mI M13 t 3) - 1)) fun M14 =>
  j2 M14
def FX8_clearPlay (t : Nat) (M : Mem) : Option (Mem) :=
  nm (sJ M t 4 0) fun M1 =>
  nm (sI M1 t 9 0) fun M2 =>
  nm (sI M2 t 8 0) fun M3 =>
  nm (sI M3 t 11 (-1)) fun M4 =>
  some M4
def FX8_dealOut (t : Nat) (p1 : Int32) (M : Mem) : Option (Int32 × Mem) :=
  nm (sI M t 6 (1 - (mI M t 6))) fun M1 =>
  nm (sJ M1 (t + 1) 0 0) fun M3 =>
  nm (sJ M3 (t + 1) 1 0) fun M5 =>
  nm (sJ M5 t 3 0) fun M6 =>
  wl4 (fun (v7 : Int64) (v8 : Int32) (v9 : Int32) (M10 : Mem) rec11 =>
    if 13 ≤ v9 then
      (FX8_clearPlay t M10).bind fun M13 =>
      nm (sI M13 t 10 (-1)) fun M14 =>
      nm (sI M14 t 5 1) fun M15 =>
      nm (sI M15 t 12 ((mI M15 t 12) + 1)) fun M16 =>
      some (v8, M16)
    else
    nm (irm ((v8 * 1103) + 12345) 1000003) fun v17 =>
    gd ((52 - v9) != 0) <|
    (FX11_cardAt v7 (irm v17 (52 - v9))).bind fun r19 =>
    (FX11_bit r19).bind fun r20 =>
    nm (v7 &&& (r20 ^^^ (-1))) fun v21 =>
    jn1 (fun (v22 : Int32) =>
      jn1 (fun (M25 : Mem) =>
        nm (v9 + 1) fun v28 =>
        rec11 v21 v17 v28 M25) fun j26 =>
      if ¬ v9 = 12 then
        (FX11_isPlayer v22).bind fun r29 =>
        if r29 = 0 then
          j26 M10
        else
        gd (inb v22 2) <|
        (FX11_bit r19).bind fun r32 =>
        gd (inb v22 2) <|
        nm (sJ M10 (t + 1) (ix v22) ((mJ M10 (t + 1) (ix v22)) ||| r32)) fun M33 =>
        j26 M33
      else
      nm (sI M10 t 7 r19) fun M35 =>
      j26 M35) fun j23 =>
    if ¬ (irm v9 2) = 0 then
      j23 (mI M10 t 6)
    else
    j23 (1 - (mI M10 t 6))) fuel 4503599627370495 p1 0 M6
def FX11_makeDeal (t : Nat) (p1 : Int32) (M : Mem) : Option (Int32 × Mem) :=
  jn0 (
    some ((-1), M)) fun j1 =>
  if p1 < 0 then
    j1
  else
  if p1 ≤ 1000000 then
    jn1 (fun (v5 : Int32) =>
      jn0 (
        some ((-3), M)) fun j8 =>
      if v5 = 0 then
        j8
      else
      if (mI M ((t + 1) + 1) 12) < 999 then
        (FX4_push (t + 29) ((t + 1) + 1) 0 M).bind fun M11 =>
        bdM (FX8_dealOut ((t + 1) + 1) p1 M11) fun r13 M12 =>
        some ((mI M12 ((t + 1) + 1) 7), M12)
      else
      j8) fun j6 =>
    jn0 (
      j6 1) fun j14 =>
    if (mI M ((t + 1) + 1) 5) = 0 then
      j14
    else
    if ¬ (mI M ((t + 1) + 1) 5) = 3 then
      j6 0
    else
    j14
  else
  j1
def FX8_canLay (t : Nat) (p1 : Int32) (p2 : Int32) (M : Mem) : Option (Int32) :=
  jn1 (fun (v1 : Int32) =>
    gd (isB v1) <|
    some v1) fun j2 =>
  jn0 (
    j2 0) fun j5 =>
  if ¬ (mI M t 5) = 1 then
    j5
  else
  (FX11_isPlayer p2).bind fun r7 =>
  if r7 = 0 then
    j5
  else
  gd (inb p2 2) <|
  (FX11_has (mJ M (t + 1) (ix p2)) p1).bind fun r10 =>
  if r10 = 0 then
    j5
  else
  gd (inb p2 2) <|
  (FJ_Long_bitCount (mJ M (t + 1) (ix p2))).bind fun r13 =>
  if r13 ≤ 4 then
    j5
  else
  j2 1
def FX8_addPegs (t : Nat) (p1 : Int32) (p2 : Int32) (M : Mem) : Option (Mem) :=
  (FX11_isPlayer p1).bind fun r1 =>
  jn1 (fun (M2 : Mem) =>
    some M2) fun j3 =>
  if r1 = 0 then
    j3 M
  else
  gd (inb p1 2) <|
  gd (inb p1 2) <|
  nm (sI M (t + 2) (ix p1) (imn 9999 ((mI M (t + 2) (ix p1)) + p2))) fun M8 =>
  j3 M8
def FX8_handOf (t : Nat) (p1 : Int32) (M : Mem) : Option (Int64) :=
  (FX11_isPlayer p1).bind fun r1 =>
  jn1 (fun (v2 : Int64) =>
    some v2) fun j3 =>
  if r1 = 0 then
    j3 0
  else
  gd (inb p1 2) <|
  j3 (mJ M (t + 1) (ix p1))
def FX8_playable (t : Nat) (p1 : Int32) (p2 : Nat) (M : Mem) : Option (Int64) :=
  (FX8_handOf t p1 M).bind fun r1 =>
  nm ((r1 &&& ((mJ M t 4) ^^^ (-1))) &&& ((mJ M p2 3) ^^^ (-1))) fun v2 =>
  wl3 (fun (v3 : Int64) (v4 : Int64) (v5 : Int32) rec6 =>
    jn0 (
      some v3) fun j8 =>
    if 6 ≤ v5 then
      j8
    else
    if v4 = 0 then
      j8
    else
    (FX11_lowest v4).bind fun r10 =>
    nm (v4 &&& (v4 - 1)) fun v11 =>
    (FX10_valueOf p2 r10 M).bind fun r12 =>
    jn1 (fun (v13 : Int64) =>
      nm (v5 + 1) fun v16 =>
      rec6 v13 v11 v16) fun j14 =>
    if 31 < ((mI M t 9) + r12) then
      j14 v3
    else
    (FX11_bit r10).bind fun r17 =>
    nm (v3 ||| r17) fun v18 =>
    j14 v18) fuel 0 v2 0
def FX8_firstWhoCan (t : Nat) (p1 : Int32) (p2 : Nat) (M : Mem) : Option (Int32) :=
  (FX8_playable t p1 p2 M).bind fun r1 =>
  if r1 = 0 then
    (FX8_playable t (1 - p1) p2 M).bind fun r2 =>
    jn1 (fun (v3 : Int32) =>
      some v3) fun j4 =>
    if r2 = 0 then
      j4 (-1)
    else
    j4 (1 - p1)
  else
  some p1
def FX8_layAway (t : Nat) (p1 : Int32) (p2 : Int32) (p3 : Nat) (M : Mem) : Option (Mem) :=
  (FX11_isPlayer p2).bind fun r1 =>
  if ¬ r1 = 0 then
    gd (inb p2 2) <|
    (FX11_bit p1).bind fun r4 =>
    gd (inb p2 2) <|
    nm (sJ M (t + 1) (ix p2) ((mJ M (t + 1) (ix p2)) &&& (r4 ^^^ (-1)))) fun M5 =>
    (FX11_bit p1).bind fun r7 =>
    nm (sJ M5 t 3 ((mJ M5 t 3) ||| r7)) fun M8 =>
    (FJ_Long_bitCount (mJ M8 (t + 1) 0)).bind fun r10 =>
    jn1 (fun (M11 : Mem) =>
      some M11) fun j12 =>
    if ¬ r10 = 4 then
      j12 M8
    else
    (FJ_Long_bitCount (mJ M8 (t + 1) 1)).bind fun r15 =>
    if ¬ r15 = 4 then
      j12 M8
    else
    (FX8_clearPlay t M8).bind fun M16 =>
    nm (sI M16 t 5 2) fun M17 =>
    jn1 (fun (M18 : Mem) =>
      (FX8_firstWhoCan t (1 - (mI M18 t 6)) p3 M18).bind fun r21 =>
      nm (sI M18 t 10 r21) fun M22 =>
      j12 M22) fun j19 =>
    if ¬ ((mI M17 t 7) / 4) = 10 then
      j19 M17
    else
    (FX8_addPegs t (mI M17 t 6) 2 M17).bind fun M23 =>
    j19 M23
  else
  some M
def FX11_makeLay (t : Nat) (p1 : Int32) (p2 : Int32) (M : Mem) : Option (Int32 × Mem) :=
  (FX11_isCard p1).bind fun r1 =>
  jn0 (
    some ((-1), M)) fun j2 =>
  if r1 = 0 then
    j2
  else
  (FX11_isPlayer p2).bind fun r4 =>
  if ¬ r4 = 0 then
    (FX8_canLay ((t + 1) + 1) p1 p2 M).bind fun r7 =>
    if ¬ r7 = 0 then
      (FX4_push (t + 29) ((t + 1) + 1) 1 M).bind fun M9 =>
      (FX8_layAway ((t + 1) + 1) p1 p2 (t + 179) M9).bind fun M11 =>
      (FJ_Long_bitCount (mJ M11 ((t + 1) + 1) 3)).bind fun r12 =>
      some (r12, M11)
    else
    some ((-3), M)
  else
  j2
def FX10_countOf (t : Nat) (p1 : Int32) (p2 : Int32) (p3 : Int32) (M : Mem) : Option (Int32) :=
  jn0 (
    some 0) fun j1 =>
  if p1 < 0 then
    j1
  else
  if 6 ≤ p1 then
    j1
  else
  if p2 < 0 then
    j1
  else
  if 3 ≤ p2 then
    j1
  else
  if p3 < 0 then
    j1
  else
  if p3 < 13 then
    gd (inb p1 6) <|
    gd (inb ((p2 * 13) + p3) 39) <|
    some (mI M ((t + 5) + 1 + 1 * (ix p1)) (ix ((p2 * 13) + p3)))
  else
  j1
def FX8_alikeAtEnd (t : Nat) (M : Mem) : Option (Int32) :=
  nm ((mI M t 8) - 1) fun v1 =>
  wl2 (fun (v2 : Int32) (v3 : Int32) rec4 =>
    jn0 (
      some v2) fun j6 =>
    if v3 < 0 then
      j6
    else
    gd (inb v3 8) <|
    gd (inb ((mI M t 8) - 1) 8) <|
    if ¬ ((mI M (t + 3) (ix v3)) / 4) = ((mI M (t + 3) (ix ((mI M t 8) - 1))) / 4) then
      j6
    else
    nm (v2 + 1) fun v12 =>
    nm (v3 + (-1)) fun v13 =>
    rec4 v12 v13) fuel 0 v1
def FX8_runAtEnd (t : Nat) (M : Mem) : Option (Int32) :=
  wl3 (fun (v1 : Int32) (v2 : Int32) (v3 : Int32) rec4 =>
    if (mI M t 8) < v3 then
      some v1
    else
    gd (inb ((mI M t 8) - v3) 8) <|
    nm (1 <<< (((mI M (t + 3) (ix ((mI M t 8) - v3))) / 4) &&& 31)) fun v8 =>
    if (v2 &&& v8) = 0 then
      nm (v2 ||| v8) fun v9 =>
      nm (v9 &&& (-v9)) fun v10 =>
      jn1 (fun (v11 : Int32) =>
        nm (v3 + 1) fun v14 =>
        rec4 v11 v9 v14) fun j12 =>
      if v3 < 3 then
        j12 v1
      else
      if ¬ v9 = (v10 * ((1 <<< (v3 &&& 31)) - 1)) then
        j12 v1
      else
      j12 v3
    else
    some v1) fuel 0 0 1
def FX8_linePegs (t : Nat) (p1 : Nat) (M : Mem) : Option (Int32) :=
  jn1 (fun (v1 : Int32) =>
    jn1 (fun (v4 : Int32) =>
      (FX8_alikeAtEnd t M).bind fun r7 =>
      jn1 (fun (v8 : Int32) =>
        (FX8_runAtEnd t M).bind fun r11 =>
        jn1 (fun (v12 : Int32) =>
          some v12) fun j13 =>
        if r11 < 3 then
          j13 v8
        else
        (FX10_countOf p1 3 2 r11 M).bind fun r15 =>
        nm (v8 + r15) fun v16 =>
        j13 v16) fun j9 =>
      if r7 < 2 then
        j9 v4
      else
      gd (inb ((mI M t 8) - 1) 8) <|
      (FX10_countOf p1 2 2 ((mI M (t + 3) (ix ((mI M t 8) - 1))) / 4) M).bind fun r19 =>
      nm (v4 + (r19 * ((r7 * (r7 - 1)) / 2))) fun v20 =>
      j9 v20) fun j5 =>
    if ¬ (mI M t 9) = 31 then
      j5 v1
    else
    nm (v1 + 2) fun v21 =>
    j5 v21) fun j2 =>
  if ¬ (mI M t 9) = (mI M p1 4) then
    j2 0
  else
  (FX10_countOf p1 1 2 (mI M t 8) M).bind fun r22 =>
  j2 r22
def FX8_putDown (t : Nat) (p1 : Int32) (p2 : Nat) (M : Mem) : Option (Int32 × Mem) :=
  nm (mI M t 10) fun v1 =>
  (FX11_bit p1).bind fun r2 =>
  nm (sJ M t 4 ((mJ M t 4) ||| r2)) fun M3 =>
  jn1 (fun (M5 : Mem) =>
    (FX10_valueOf p2 p1 M5).bind fun r8 =>
    nm (sI M5 t 9 ((mI M5 t 9) + r8)) fun M9 =>
    nm (sI M9 t 11 v1) fun M10 =>
    (FX8_linePegs t p2 M10).bind fun r11 =>
    (FX8_firstWhoCan t (1 - v1) p2 M10).bind fun r12 =>
    nm (sI M10 t 10 r12) fun M13 =>
    jn2 (fun (v14 : Int32) (M15 : Mem) =>
      (FX8_addPegs t v1 v14 M15).bind fun M18 =>
      some (v14, M18)) fun j16 =>
    if ¬ (mI M13 t 10) = (-1) then
      j16 r11 M13
    else
    jn1 (fun (v19 : Int32) =>
      nm (r11 + v19) fun v22 =>
      nm (sI M13 t 9 0) fun M23 =>
      nm (sI M23 t 8 0) fun M24 =>
      (FX8_firstWhoCan t (1 - v1) p2 M24).bind fun r25 =>
      nm (sI M24 t 10 r25) fun M26 =>
      j16 v22 M26) fun j20 =>
    if ¬ (mI M13 t 9) = 31 then
      j20 1
    else
    j20 0) fun j6 =>
  if 8 ≤ (mI M3 t 8) then
    j6 M3
  else
  gd (inb (mI M3 t 8) 8) <|
  nm (sI M3 (t + 3) (ix (mI M3 t 8)) p1) fun M28 =>
  nm (sI M28 t 8 ((mI M28 t 8) + 1)) fun M30 =>
  j6 M30
def FX11_makePlay (t : Nat) (p1 : Int32) (p2 : Int32) (M : Mem) : Option (Int32 × Mem) :=
  (FX11_isCard p1).bind fun r1 =>
  jn0 (
    some ((-1), M)) fun j2 =>
  if r1 = 0 then
    j2
  else
  (FX11_isPlayer p2).bind fun r4 =>
  if ¬ r4 = 0 then
    jn0 (
      some ((-3), M)) fun j7 =>
    if ¬ (mI M ((t + 1) + 1) 10) = p2 then
      j7
    else
    (FX8_playable ((t + 1) + 1) p2 (t + 179) M).bind fun r10 =>
    (FX11_has r10 p1).bind fun r11 =>
    if ¬ r11 = 0 then
      (FX4_push (t + 29) ((t + 1) + 1) 2 M).bind fun M13 =>
      bdM (FX8_putDown ((t + 1) + 1) p1 (t + 179) M13) fun r16 M15 =>
      some (r16, M15)
    else
    j7
  else
  j2
def FJ_Arrays_fill_0 (p0 n0 : Nat) (p1 : Int32) (M : Mem) : Option (Mem) :=
  nm (Int32.ofNat n0) fun v1 =>
  wl2 (fun (v2 : Int32) (M3 : Mem) rec4 =>
    if v1 ≤ v2 then
      some M3
    else
    gd (inb v2 n0) <|
    nm (sI M3 p0 (ix v2) p1) fun M6 =>
    nm (v2 + 1) fun v8 =>
    rec4 v8 M6) fuel 0 M
def FJ_Integer_bitCount (p0 : Int32) : Option (Int32) :=
  nm (p0 - (((p0.toUInt32 >>> ((1 : Int32).toUInt32 &&& Int32.toUInt32 31)).toInt32) &&& 1431655765)) fun v1 =>
  nm ((v1 &&& 858993459) + (((v1.toUInt32 >>> ((2 : Int32).toUInt32 &&& Int32.toUInt32 31)).toInt32) &&& 858993459)) fun v2 =>
  nm ((v2 + ((v2.toUInt32 >>> ((4 : Int32).toUInt32 &&& Int32.toUInt32 31)).toInt32)) &&& 252645135) fun v3 =>
  nm (v3 + ((v3.toUInt32 >>> ((8 : Int32).toUInt32 &&& Int32.toUInt32 31)).toInt32)) fun v4 =>
  nm (v4 + ((v4.toUInt32 >>> ((16 : Int32).toUInt32 &&& Int32.toUInt32 31)).toInt32)) fun v5 =>
  some (v5 &&& 63)
def FX2_takeFifteens (t : Nat) (M : Mem) : Option (Mem) :=
  nm (sI M t 7 0) fun M1 =>
  (FJ_Arrays_fill_0 (t + 5) 32 0 M1).bind fun M3 =>
  wl2 (fun (v4 : Int32) (M5 : Mem) rec6 =>
    if 16 ≤ v4 then
      some M5
    else
    wl2 (fun (v8 : Int32) (v9 : Int32) rec10 =>
      if 4 ≤ v9 then
        (FJ_Integer_bitCount v4).bind fun r12 =>
        nm (mR M5 t 5) fun v13 =>
        v13.bind fun b16 =>
        nm ((mI M5 b16 4) - v8) fun v19 =>
        jn1 (fun (M20 : Mem) =>
          nm (v4 + 1) fun v23 =>
          rec6 v23 M20) fun j21 =>
        jn0 (
          if v19 ≤ 0 then
            j21 M5
          else
          if 32 ≤ v19 then
            j21 M5
          else
          gd (inb v19 32) <|
          nm (mR M5 t 5) fun v29 =>
          v29.bind fun b32 =>
          (FX10_countOf b32 1 (mI M5 t 6) (r12 + 1) M5).bind fun r35 =>
          gd (inb v19 32) <|
          nm (sI M5 (t + 5) (ix v19) ((mI M5 (t + 5) (ix v19)) + r35)) fun M36 =>
          j21 M36) fun j24 =>
        if ¬ v19 = 0 then
          j24
        else
        if r12 < 2 then
          j24
        else
        nm (mR M5 t 5) fun v38 =>
        v38.bind fun b41 =>
        (FX10_countOf b41 1 (mI M5 t 6) r12 M5).bind fun r44 =>
        nm (sI M5 t 7 ((mI M5 t 7) + r44)) fun M45 =>
        j21 M45
      else
      nm (mR M5 t 5) fun v46 =>
      gd (inb v9 4) <|
      v46.bind fun b51 =>
      (FX10_valueOf b51 (mI M5 (t + 1) (ix v9)) M5).bind fun r54 =>
      nm (v8 + (((v4 >>> (v9 &&& 31)) &&& 1) * r54)) fun v55 =>
      nm (v9 + 1) fun v56 =>
      rec10 v55 v56) fuel 0 0) fuel 1 M3
def FX10_runsOf (t : Nat) (p1 n1 : Nat) (p2 : Int32) (M : Mem) : Option (Int32) :=
  wl3 (fun (v1 : Int32) (v2 : Int32) (v3 : Int32) rec4 =>
    jn0 (
      some 0) fun j6 =>
    if 13 < v3 then
      j6
    else
    if (Int32.ofNat n1) < v3 then
      j6
    else
    jn1 (fun (v8 : Int32) =>
      jn2 (fun (v11 : Int32) (v12 : Int32) =>
        nm (v3 + 1) fun v15 =>
        rec4 v11 v12 v15) fun j13 =>
      if v8 ≤ 0 then
        if v1 < 3 then
          j13 0 1
        else
        (FX10_countOf t 3 p2 v1 M).bind fun r16 =>
        some (v2 * r16)
      else
      nm (v1 + 1) fun v17 =>
      nm (v2 * v8) fun v18 =>
      j13 v17 v18) fun j9 =>
    jn0 (
      j9 0) fun j19 =>
    if 13 ≤ v3 then
      j19
    else
    if (Int32.ofNat n1) ≤ v3 then
      j19
    else
    gd (inb v3 n1) <|
    j9 (mI M p1 (ix v3))) fuel 0 1 0
def FX2_takeRanks (t : Nat) (M : Mem) : Option (Mem) :=
  (FJ_Arrays_fill_0 (t + 2) 13 0 M).bind fun M2 =>
  wl2 (fun (v3 : Int32) (M4 : Mem) rec5 =>
    if 4 ≤ v3 then
      wl2 (fun (v7 : Int32) (v8 : Int32) rec9 =>
        if 13 ≤ v8 then
          wl2 (fun (v11 : Int32) (M12 : Mem) rec13 =>
            if 13 ≤ v11 then
              some M12
            else
            gd (inb v11 13) <|
            nm (mR M12 t 5) fun v18 =>
            v18.bind fun b21 =>
            (FX10_countOf b21 2 (mI M12 t 6) v11 M12).bind fun r24 =>
            gd (inb v11 13) <|
            nm (sI M12 (t + 3) (ix v11) (v7 + ((mI M12 (t + 2) (ix v11)) * r24))) fun M25 =>
            gd (inb v11 13) <|
            gd (inb v11 13) <|
            nm (sI M25 (t + 2) (ix v11) ((mI M25 (t + 2) (ix v11)) + 1)) fun M29 =>
            nm (mR M29 t 5) fun v32 =>
            v32.bind fun b36 =>
            (FX10_runsOf b36 (t + 2) 13 (mI M29 t 6) M29).bind fun r39 =>
            gd (inb v11 13) <|
            nm (sI M29 (t + 4) (ix v11) r39) fun M40 =>
            gd (inb v11 13) <|
            gd (inb v11 13) <|
            nm (sI M40 (t + 2) (ix v11) ((mI M40 (t + 2) (ix v11)) - 1)) fun M44 =>
            nm (v11 + 1) fun v46 =>
            rec13 v46 M44) fuel 0 M4
        else
        gd (inb v8 13) <|
        gd (inb v8 13) <|
        nm (mR M4 t 5) fun v51 =>
        v51.bind fun b54 =>
        (FX10_countOf b54 2 (mI M4 t 6) v8 M4).bind fun r57 =>
        nm (v7 + ((((mI M4 (t + 2) (ix v8)) * ((mI M4 (t + 2) (ix v8)) - 1)) / 2) * r57)) fun v58 =>
        nm (v8 + 1) fun v59 =>
        rec9 v58 v59) fuel 0 0
    else
    gd (inb v3 4) <|
    gd (inb ((mI M4 (t + 1) (ix v3)) / 4) 13) <|
    gd (inb ((mI M4 (t + 1) (ix v3)) / 4) 13) <|
    nm (sI M4 (t + 2) (ix ((mI M4 (t + 1) (ix v3)) / 4)) ((mI M4 (t + 2) (ix ((mI M4 (t + 1) (ix v3)) / 4))) + 1)) fun M64 =>
    nm (v3 + 1) fun v66 =>
    rec5 v66 M64) fuel 0 M2
def FX2_take (t : Nat) (p1 : Int64) (p3 : Int32) (p4 : Nat) (M : Mem) : Option (Mem) :=
  nm (sR M t 5 (some p4)) fun M1 =>
  nm (sI M1 t 6 p3) fun M2 =>
  nm (sJ M2 t 9 0) fun M3 =>
  wl2 (fun (v4 : Int32) (M5 : Mem) rec6 =>
    if 4 ≤ v4 then
      nm (sI M5 t 8 (irm (mI M5 (t + 1) 0) 4)) fun M9 =>
      wl2 (fun (v10 : Int32) (M11 : Mem) rec12 =>
        if 4 ≤ v10 then
          wl2 (fun (v14 : Int32) (M15 : Mem) rec16 =>
            if 4 ≤ v14 then
              (FX2_takeFifteens t M15).bind fun M18 =>
              (FX2_takeRanks t M18).bind fun M19 =>
              some M19
            else
            gd (inb v14 4) <|
            jn1 (fun (M22 : Mem) =>
              nm (v14 + 1) fun v25 =>
              rec16 v25 M22) fun j23 =>
            if ¬ ((mI M15 (t + 1) (ix v14)) / 4) = 10 then
              j23 M15
            else
            gd (inb v14 4) <|
            (FX11_bit (mI M15 (t + 1) (ix v14))).bind fun r28 =>
            nm (sJ M15 t 9 ((mJ M15 t 9) ||| r28)) fun M29 =>
            j23 M29) fuel 0 M11
        else
        gd (inb v10 4) <|
        jn1 (fun (M32 : Mem) =>
          nm (v10 + 1) fun v35 =>
          rec12 v35 M32) fun j33 =>
        if (irm (mI M11 (t + 1) (ix v10)) 4) = (mI M11 t 8) then
          j33 M11
        else
        nm (sI M11 t 8 (-1)) fun M36 =>
        j33 M36) fuel 0 M9
    else
    (FX11_cardAt p1 v4).bind fun r38 =>
    gd (inb v4 4) <|
    nm (sI M5 (t + 1) (ix v4) (imx 0 r38)) fun M39 =>
    nm (v4 + 1) fun v41 =>
    rec6 v41 M39) fuel 0 M3
def FX2_fifteensWith (t : Nat) (p1 : Int32) (M : Mem) : Option (Int32) :=
  nm (mR M t 5) fun v1 =>
  v1.bind fun b4 =>
  (FX10_valueOf b4 p1 M).bind fun r7 =>
  jn1 (fun (v8 : Int32) =>
    some ((mI M t 7) + v8)) fun j9 =>
  jn0 (
    j9 0) fun j11 =>
  if r7 < 0 then
    j11
  else
  if 32 ≤ r7 then
    j11
  else
  gd (inb r7 32) <|
  j9 (mI M (t + 5) (ix r7))
def FX10_flushItem (p0 : Int32) (p1 : Int32) : Option (Int32) :=
  some (((2 * p0) + p1) - 4)
def FX2_flushWith (t : Nat) (p1 : Int32) (M : Mem) : Option (Int32) :=
  if ¬ (mI M t 8) = (-1) then
    if ¬ (irm p1 4) = (mI M t 8) then
      jn1 (fun (v1 : Int32) =>
        some v1) fun j2 =>
      if ¬ (mI M t 6) = 0 then
        j2 0
      else
      nm (mR M t 5) fun v4 =>
      (FX10_flushItem (mI M t 8) 4).bind fun r7 =>
      v4.bind fun b8 =>
      (FX10_countOf b8 4 (mI M t 6) r7 M).bind fun r11 =>
      j2 r11
    else
    nm (mR M t 5) fun v12 =>
    (FX10_flushItem (mI M t 8) 5).bind fun r15 =>
    v12.bind fun b16 =>
    (FX10_countOf b16 4 (mI M t 6) r15 M).bind fun r19 =>
    some r19
  else
  some 0
def FX2_nobsWith (t : Nat) (p1 : Int32) (M : Mem) : Option (Int32) :=
  (FX11_has (mJ M t 9) (40 + (irm p1 4))).bind fun r1 =>
  jn1 (fun (v2 : Int32) =>
    some v2) fun j3 =>
  if r1 = 0 then
    j3 0
  else
  nm (mR M t 5) fun v5 =>
  v5.bind fun b8 =>
  (FX10_countOf b8 5 (mI M t 6) (irm p1 4) M).bind fun r11 =>
  j3 r11
def FX2_part (t : Nat) (p1 : Int32) (p2 : Int32) (M : Mem) : Option (Int32) :=
  nm (mR M t 5) fun v1 =>
  jn0 (
    some 0) fun j4 =>
  if v1 = none then
    j4
  else
  (FX11_isCard p1).bind fun r7 =>
  if ¬ r7 = 0 then
    nm (p1 / 4) fun v8 =>
    sw p2.toInt 0 [
      (FX2_fifteensWith t p1 M).bind fun r10 =>
      gd (inb v8 13) <|
      gd (inb v8 13) <|
      (FX2_flushWith t p1 M).bind fun r15 =>
      (FX2_nobsWith t p1 M).bind fun r16 =>
      some ((((r10 + (mI M (t + 3) (ix v8))) + (mI M (t + 4) (ix v8))) + r15) + r16),
      (FX2_fifteensWith t p1 M).bind fun r17 =>
      some r17,
      gd (inb v8 13) <|
      some (mI M (t + 3) (ix v8)),
      gd (inb v8 13) <|
      some (mI M (t + 4) (ix v8)),
      (FX2_flushWith t p1 M).bind fun r22 =>
      some r22]
    ((FX2_nobsWith t p1 M).bind fun r9 =>
      some r9)
  else
  j4
def FX11_showAll (t : Nat) (p1 : Nat) (M : Mem) : Option (Int32 × Mem) :=
  nm (1 - (mI M p1 6)) fun v1 =>
  (FX8_handOf p1 v1 M).bind fun r3 =>
  (FX2_take (t + 203) r3 0 (t + 179) M).bind fun M5 =>
  (FX2_part (t + 203) (mI M5 p1 7) 0 M5).bind fun r7 =>
  (FX8_handOf p1 (mI M5 p1 6) M5).bind fun r9 =>
  (FX2_take (t + 203) r9 0 (t + 179) M5).bind fun M11 =>
  (FX2_part (t + 203) (mI M11 p1 7) 0 M11).bind fun r13 =>
  (FX2_take (t + 203) (mJ M11 p1 3) 1 (t + 179) M11).bind fun M16 =>
  (FX2_part (t + 203) (mI M16 p1 7) 0 M16).bind fun r18 =>
  nm (r13 + r18) fun v19 =>
  (FX8_addPegs p1 v1 r7 M16).bind fun M20 =>
  (FX8_addPegs p1 (mI M20 p1 6) v19 M20).bind fun M21 =>
  nm (sI M21 p1 5 3) fun M22 =>
  some ((r7 + v19), M22)
def FX11_makeShow (t : Nat) (M : Mem) : Option (Int32 × Mem) :=
  jn0 (
    some ((-3), M)) fun j3 =>
  if ¬ (mI M ((t + 1) + 1) 5) = 2 then
    j3
  else
  if (mI M ((t + 1) + 1) 10) = (-1) then
    (FX4_push (t + 29) ((t + 1) + 1) 3 M).bind fun M6 =>
    bdM (FX11_showAll t ((t + 1) + 1) M6) fun r8 M7 =>
    some (r8, M7)
  else
  j3
def FX11_runClause (t : Nat) (p1 : Nat) (p2 : Int32) (M : Mem) : Option (Int32 × Mem) :=
  (FX9_at p1 p2 0 M).bind fun r1 =>
  (FX9_at p1 p2 1 M).bind fun r2 =>
  wl2 (fun (v3 : Int32) (M4 : Mem) rec5 =>
    if r2 ≤ v3 then
      some (1, M4)
    else
    (FX11_tellTable t M4).bind fun M7 =>
    (FX10_fit (t + 179) (t + 1) (mI M7 (t + 1) 8) ((t + 1) + 1) M7).bind fun M13 =>
    bdM (FX7_isSo (t + 176) p1 p2 M13) fun r16 M15 =>
    jn1 (fun (M17 : Mem) =>
      nm (v3 + 1) fun v20 =>
      rec5 v20 M17) fun j18 =>
    if ¬ r16 = 0 then
      bdM (FX7_workBoth (t + 176) p1 p2 M15) fun r23 M22 =>
      if ¬ r23 = 0 then
        jn2 (fun (v24 : Int32) (M25 : Mem) =>
          if 0 ≤ v24 then
            (FX7_told (t + 176) 1 M25).bind fun r30 =>
            (FX7_tell (t + 176) 1 (r30 + 1) M25).bind fun M31 =>
            if ¬ r1 = 8 then
              j18 M31
            else
            (FX7_tell (t + 176) 2 v24 M31).bind fun M33 =>
            j18 M33
          else
          some (0, M25)) fun j26 =>
        sw r1.toInt 7 [
          bdM (FX11_makeLay t (mI M22 (t + 176) 2) (mI M22 (t + 176) 3) M22) fun r39 M38 =>
          j26 r39 M38,
          bdM (FX11_makePlay t (mI M22 (t + 176) 2) (mI M22 (t + 176) 3) M22) fun r43 M42 =>
          j26 r43 M42,
          bdM (FX11_makeShow t M22) fun r45 M44 =>
          j26 r45 M44,
          bdM (FX11_makeDeal t (mI M22 (t + 176) 2) M22) fun r48 M47 =>
          j26 r48 M47]
        (bdM (FX11_makeShow t M22) fun r35 M34 =>
          j26 r35 M34)
      else
      some (0, M22)
    else
    j18 M15) fuel 0 M
def FX11_orders (t : Nat) (M : Mem) : Option (Int32 × Mem) :=
  nm (sI M t 18 (-1)) fun M1 =>
  bdM (FX5_readText (t + 171) 0 M1) fun r4 M3 =>
  if ¬ r4 = 0 then
    (FX8_copyFrom (t + 163) ((t + 1) + 1) M3).bind fun M8 =>
    (FX4_copyFrom (t + 96) (t + 29) M8).bind fun M11 =>
    (FX7_tell (t + 176) 1 0 M11).bind fun M13 =>
    (FX7_tell (t + 176) 2 (-1) M13).bind fun M15 =>
    wl2 (fun (v16 : Int32) (M17 : Mem) rec18 =>
      if (mI M17 ((t + 171) + 2) 3) ≤ v16 then
        (FX7_told (t + 176) 1 M17).bind fun r23 =>
        bdM (FX11_grant t r23 M17) fun r25 M24 =>
        some (r25, M24)
      else
      bdM (FX11_runClause t ((t + 171) + 2) v16 M17) fun r29 M28 =>
      if ¬ r29 = 0 then
        nm (v16 + 1) fun v30 =>
        rec18 v30 M28
      else
      nm (sI M28 t 18 v16) fun M31 =>
      (FX8_copyFrom ((t + 1) + 1) (t + 163) M31).bind fun M35 =>
      (FX4_copyFrom (t + 29) (t + 96) M35).bind fun M38 =>
      bdM (FX11_refuse t (-3) M38) fun r40 M39 =>
      some (r40, M39)) fuel 0 M15
  else
  bdM (FX11_refuse t (-6) M3) fun r42 M41 =>
  some (r42, M41)
def FX11_fault (t : Nat) (M : Mem) : Option (Int32) :=
  some (mI M (t + 171) 3)
def FX11_stopped (t : Nat) (M : Mem) : Option (Int32) :=
  some (mI M t 18)
def FX11_isLaw (t : Nat) (p1 : Int32) (M : Mem) : Option (Int32) :=
  jn1 (fun (v1 : Int32) =>
    gd (isB v1) <|
    some v1) fun j2 =>
  jn0 (
    j2 0) fun j5 =>
  if p1 < (-1) then
    j5
  else
  if (mI M (t + 1) 7) ≤ p1 then
    j5
  else
  j2 1
def FX11_force (t : Nat) (p1 : Int32) (M : Mem) : Option (Int32 × Mem) :=
  (FX11_isLaw t p1 M).bind fun r1 =>
  if ¬ r1 = 0 then
    nm (mI M (t + 1) 8) fun v3 =>
    nm (sI M (t + 1) 8 p1) fun M5 =>
    bdM (FX11_grant t v3 M5) fun r7 M6 =>
    some (r7, M6)
  else
  bdM (FX11_refuse t (-2) M) fun r9 M8 =>
  some (r9, M8)
def FX11_tell (t : Nat) (p1 : Int32) (M : Mem) : Option (Int32 × Mem) :=
  jn2 (fun (v1 : Int32) (M2 : Mem) =>
    some (v1, M2)) fun j3 =>
  if 0 ≤ p1 then
    bdM (FX11_grant t p1 M) fun r6 M5 =>
    j3 r6 M5
  else
  bdM (FX11_refuse t p1 M) fun r8 M7 =>
  j3 r8 M7
def FX11_deal (t : Nat) (p1 : Int32) (M : Mem) : Option (Int32 × Mem) :=
  bdM (FX11_makeDeal t p1 M) fun r2 M1 =>
  bdM (FX11_tell t r2 M1) fun r4 M3 =>
  some (r4, M3)
def FX11_lay (t : Nat) (p1 : Int32) (p2 : Int32) (M : Mem) : Option (Int32 × Mem) :=
  (FX10_fit (t + 179) (t + 1) (mI M (t + 1) 8) ((t + 1) + 1) M).bind fun M6 =>
  bdM (FX11_makeLay t p1 p2 M6) fun r8 M7 =>
  bdM (FX11_tell t r8 M7) fun r10 M9 =>
  some (r10, M9)
def FX11_play (t : Nat) (p1 : Int32) (p2 : Int32) (M : Mem) : Option (Int32 × Mem) :=
  (FX10_fit (t + 179) (t + 1) (mI M (t + 1) 8) ((t + 1) + 1) M).bind fun M6 =>
  bdM (FX11_makePlay t p1 p2 M6) fun r8 M7 =>
  bdM (FX11_tell t r8 M7) fun r10 M9 =>
  some (r10, M9)
def FX11_show (t : Nat) (M : Mem) : Option (Int32 × Mem) :=
  (FX10_fit (t + 179) (t + 1) (mI M (t + 1) 8) ((t + 1) + 1) M).bind fun M6 =>
  bdM (FX11_makeShow t M6) fun r8 M7 =>
  bdM (FX11_tell t r8 M7) fun r10 M9 =>
  some (r10, M9)
def FX4_pop (t : Nat) (p1 : Nat) (M : Mem) : Option (Int32 × Mem) :=
  if ¬ (mI M t 3) = 0 then
    nm (sI M t 3 ((mI M t 3) - 1)) fun M1 =>
    nm (irm ((mI M1 t 2) + (mI M1 t 3)) 16) fun v2 =>
    gd (inb v2 16) <|
    (FX8_copyFrom p1 ((t + 1) + 2 + 4 * (ix v2)) M1).bind fun M6 =>
    gd (inb v2 16) <|
    some ((mI M6 (t + 2) (ix v2)), M6)
  else
  some ((-1), M)
def FX11_undo (t : Nat) (M : Mem) : Option (Int32 × Mem) :=
  if ¬ (mI M (t + 29) 3) = 0 then
    bdM (FX4_pop (t + 29) ((t + 1) + 1) M) fun r6 M5 =>
    bdM (FX11_grant t r6 M5) fun r8 M7 =>
    some (r8, M7)
  else
  bdM (FX11_refuse t (-3) M) fun r10 M9 =>
  some (r10, M9)
def FX11_hold (t : Nat) (p1 : Int32) (M : Mem) : Option (Int32 × Mem) :=
  (FX11_isCard p1).bind fun r1 =>
  if ¬ r1 = 0 then
    (FX11_has (mJ M (t + 1) 5) p1).bind fun r3 =>
    if r3 = 0 then
      (FJ_Long_bitCount (mJ M (t + 1) 5)).bind fun r5 =>
      if r5 < 6 then
        (FX11_bit p1).bind fun r7 =>
        nm (sJ M (t + 1) 5 ((mJ M (t + 1) 5) ||| r7)) fun M8 =>
        (FJ_Long_bitCount (mJ M8 (t + 1) 5)).bind fun r10 =>
        bdM (FX11_grant t r10 M8) fun r12 M11 =>
        some (r12, M11)
      else
      bdM (FX11_refuse t (-5) M) fun r14 M13 =>
      some (r14, M13)
    else
    bdM (FX11_refuse t (-3) M) fun r16 M15 =>
    some (r16, M15)
  else
  bdM (FX11_refuse t (-1) M) fun r18 M17 =>
  some (r18, M17)
def FX11_drop (t : Nat) (M : Mem) : Option (Int32 × Mem) :=
  (FJ_Long_bitCount (mJ M (t + 1) 5)).bind fun r2 =>
  nm (sJ M (t + 1) 5 0) fun M4 =>
  some (r2, M4)
def FX11_canCount (t : Nat) (p1 : Int32) (M : Mem) : Option (Int32) :=
  (FJ_Long_bitCount (mJ M (t + 1) 5)).bind fun r2 =>
  jn1 (fun (v3 : Int32) =>
    gd (isB v3) <|
    some v3) fun j4 =>
  jn0 (
    j4 0) fun j7 =>
  if ¬ r2 = 4 then
    j7
  else
  (FX11_isCard p1).bind fun r9 =>
  if r9 = 0 then
    j7
  else
  (FX11_has (mJ M (t + 1) 5) p1).bind fun r11 =>
  if ¬ r11 = 0 then
    j7
  else
  j4 1
def FX11_counted (t : Nat) (p1 : Int32) (p2 : Int32) (p3 : Int32) (M : Mem) : Option (Int32 × Mem) :=
  (FX11_canCount t p1 M).bind fun r1 =>
  jn0 (
    some ((-1), M)) fun j2 =>
  if r1 = 0 then
    j2
  else
  if p2 < 0 then
    j2
  else
  if 1 < p2 then
    j2
  else
  if p3 < 0 then
    j2
  else
  if p3 ≤ 5 then
    (FX10_fit (t + 179) (t + 1) (mI M (t + 1) 8) ((t + 1) + 1) M).bind fun M9 =>
    jn1 (fun (v12 : Int32) =>
      (FX2_take (t + 203) (mJ M9 (t + 1) 5) v12 (t + 179) M9).bind fun M16 =>
      (FX2_part (t + 203) p1 p3 M16).bind fun r18 =>
      some (r18, M16)) fun j13 =>
    if ¬ p2 = 1 then
      j13 0
    else
    j13 1
  else
  j2
def FX3_countAll (t : Nat) (p1 : Int64) (p3 : Nat) (p4 : Nat) (M : Mem) : Option (Mem) :=
  nm (sJ M t 3 p1) fun M1 =>
  wl3 (fun (v2 : Int32) (v3 : Int32) (M4 : Mem) rec5 =>
    if 6 ≤ v3 then
      some M4
    else
    nm (v3 + 1) fun v7 =>
    wl3 (fun (v8 : Int32) (v9 : Int32) (M10 : Mem) rec11 =>
      jn0 (
        nm (v3 + 1) fun v15 =>
        rec5 v8 v15 M10) fun j13 =>
      if 6 ≤ v9 then
        j13
      else
      if 15 ≤ v8 then
        j13
      else
      (FX11_cardAt (mJ M10 t 3) v3).bind fun r17 =>
      gd (inb v8 15) <|
      nm (sI M10 (t + 17) (ix v8) r17) fun M18 =>
      (FX11_cardAt (mJ M18 t 3) v9).bind fun r21 =>
      gd (inb v8 15) <|
      nm (sI M18 (t + 18) (ix v8) r21) fun M22 =>
      gd (inb v8 15) <|
      (FX11_bit (mI M22 (t + 17) (ix v8))).bind fun r26 =>
      gd (inb v8 15) <|
      (FX11_bit (mI M22 (t + 18) (ix v8))).bind fun r29 =>
      (FX2_take p3 (((mJ M22 t 3) &&& (r26 ^^^ (-1))) &&& (r29 ^^^ (-1))) 0 p4 M22).bind fun M30 =>
      wl2 (fun (v31 : Int32) (M32 : Mem) rec33 =>
        if 52 ≤ v31 then
          nm (v8 + 1) fun v35 =>
          nm (v9 + 1) fun v36 =>
          rec11 v35 v36 M32
        else
        gd (inb v8 15) <|
        (FX11_has (mJ M32 t 3) v31).bind fun r40 =>
        jn1 (fun (v41 : Int32) =>
          gd (inb v31 52) <|
          nm (sI M32 ((t + 1) + 1 + 1 * (ix v8)) (ix v31) v41) fun M44 =>
          nm (v31 + 1) fun v46 =>
          rec33 v46 M44) fun j42 =>
        if r40 = 0 then
          (FX2_part p3 v31 0 M32).bind fun r47 =>
          j42 r47
        else
        j42 (-1)) fuel 0 M30) fuel v2 v7 M4) fuel 0 0 M1
def FX11_countFours (t : Nat) (M : Mem) : Option (Mem) :=
  (FX10_fit (t + 179) (t + 1) (mI M (t + 1) 8) ((t + 1) + 1) M).bind fun M6 =>
  (FX3_countAll (t + 209) (mJ M6 (t + 1) 5) (t + 203) (t + 179) M6).bind fun M11 =>
  some M11
def FX3_together (t : Nat) (p1 : Int32) (M : Mem) : Option (Int32) :=
  wl2 (fun (v1 : Int32) (v2 : Int32) rec3 =>
    jn0 (
      some v1) fun j5 =>
    if 52 ≤ v2 then
      j5
    else
    if p1 < 0 then
      j5
    else
    if 15 ≤ p1 then
      j5
    else
    gd (inb p1 15) <|
    gd (inb v2 52) <|
    nm (v1 + (imx 0 (mI M ((t + 1) + 1 + 1 * (ix p1)) (ix v2)))) fun v11 =>
    nm (v2 + 1) fun v12 =>
    rec3 v11 v12) fuel 0 0
def FX3_dearest (t : Nat) (M : Mem) : Option (Int32) :=
  wl2 (fun (v1 : Int32) (v2 : Int32) rec3 =>
    if 15 ≤ v2 then
      some v1
    else
    (FX3_together t v2 M).bind fun r5 =>
    (FX3_together t v1 M).bind fun r6 =>
    jn1 (fun (v7 : Int32) =>
      nm (v2 + 1) fun v10 =>
      rec3 v7 v10) fun j8 =>
    if r5 ≤ r6 then
      j8 v1
    else
    j8 v2) fuel 0 1
def FX3_lowerAway (t : Nat) (p1 : Int32) (M : Mem) : Option (Int32) :=
  jn1 (fun (v1 : Int32) =>
    some v1) fun j2 =>
  jn0 (
    j2 (-1)) fun j4 =>
  if p1 < 0 then
    j4
  else
  if 15 ≤ p1 then
    j4
  else
  gd (inb p1 15) <|
  j2 (mI M (t + 17) (ix p1))
def FX3_higherAway (t : Nat) (p1 : Int32) (M : Mem) : Option (Int32) :=
  jn1 (fun (v1 : Int32) =>
    some v1) fun j2 =>
  jn0 (
    j2 (-1)) fun j4 =>
  if p1 < 0 then
    j4
  else
  if 15 ≤ p1 then
    j4
  else
  gd (inb p1 15) <|
  j2 (mI M (t + 18) (ix p1))
def FX11_kept (t : Nat) (p1 : Int32) (M : Mem) : Option (Int32 × Mem) :=
  (FJ_Long_bitCount (mJ M (t + 1) 5)).bind fun r2 =>
  jn0 (
    some ((-1), M)) fun j3 =>
  if ¬ r2 = 6 then
    j3
  else
  if p1 < 0 then
    j3
  else
  if p1 ≤ 2 then
    (FX11_countFours t M).bind fun M5 =>
    (FX3_dearest (t + 209) M5).bind fun r7 =>
    if ¬ p1 = 0 then
      jn1 (fun (v8 : Int32) =>
        some (v8, M5)) fun j9 =>
      if ¬ p1 = 1 then
        (FX3_higherAway (t + 209) r7 M5).bind fun r12 =>
        j9 r12
      else
      (FX3_lowerAway (t + 209) r7 M5).bind fun r14 =>
      j9 r14
    else
    (FX3_together (t + 209) r7 M5).bind fun r16 =>
    some (r16, M5)
  else
  j3
def FJ_Arrays_fill_1 (p0 n0 : Nat) (p1 : Int64) (M : Mem) : Option (Mem) :=
  nm (Int32.ofNat n0) fun v1 =>
  wl2 (fun (v2 : Int32) (M3 : Mem) rec4 =>
    if v1 ≤ v2 then
      some M3
    else
    gd (inb v2 n0) <|
    nm (sJ M3 p0 (ix v2) p1) fun M6 =>
    nm (v2 + 1) fun v8 =>
    rec4 v8 M6) fuel 0 M
def FX0_addWays (t : Nat) (p1 : Int32) (M : Mem) : Option (Mem) :=
  wl2 (fun (v1 : Int32) (M2 : Mem) rec3 =>
    if v1 < 1 then
      some M2
    else
    wl2 (fun (v5 : Int32) (M6 : Mem) rec7 =>
      jn0 (
        nm (v1 + (-1)) fun v11 =>
        rec3 v11 M6) fun j9 =>
      if v5 < p1 then
        j9
      else
      if v5 < 1 then
        j9
      else
      gd (inb v1 4) <|
      gd (inb v5 32) <|
      gd (inb (v1 - 1) 4) <|
      gd (inb (v5 - (imx 0 p1)) 32) <|
      gd (inb v5 32) <|
      nm (sJ M6 ((t + 1) + 1 + 1 * (ix v1)) (ix v5) ((mJ M6 ((t + 1) + 1 + 1 * (ix v1)) (ix v5)) + (mJ M6 ((t + 1) + 1 + 1 * (ix (v1 - 1))) (ix (v5 - (imx 0 p1)))))) fun M20 =>
      nm (v5 + (-1)) fun v22 =>
      rec7 v22 M20) fuel 31 M2) fuel 3 M
def FX0_sortFree (t : Nat) (p1 : Int64) (M : Mem) : Option (Mem) :=
  (FJ_Arrays_fill_0 (t + 6) 13 0 M).bind fun M2 =>
  (FJ_Arrays_fill_0 (t + 7) 4 0 M2).bind fun M4 =>
  wl2 (fun (v5 : Int32) (M6 : Mem) rec7 =>
    if 4 ≤ v5 then
      nm (sJ M6 ((t + 1) + 1 + 1 * 0) 0 1) fun M11 =>
      wl2 (fun (v12 : Int32) (M13 : Mem) rec14 =>
        if 52 ≤ v12 then
          some M13
        else
        (FX11_has p1 v12).bind fun r16 =>
        jn1 (fun (M17 : Mem) =>
          nm (v12 + 1) fun v20 =>
          rec14 v20 M17) fun j18 =>
        if r16 = 0 then
          j18 M13
        else
        gd (inb (v12 / 4) 13) <|
        gd (inb (v12 / 4) 13) <|
        nm (sI M13 (t + 6) (ix (v12 / 4)) ((mI M13 (t + 6) (ix (v12 / 4))) + 1)) fun M23 =>
        gd (inb (irm v12 4) 4) <|
        gd (inb (irm v12 4) 4) <|
        nm (sI M23 (t + 7) (ix (irm v12 4)) ((mI M23 (t + 7) (ix (irm v12 4))) + 1)) fun M27 =>
        nm (mR M27 t 4) fun v29 =>
        v29.bind fun b32 =>
        (FX10_valueOf b32 v12 M27).bind fun r35 =>
        (FX0_addWays t r35 M27).bind fun M36 =>
        j18 M36) fuel 0 M11
    else
    gd (inb v5 4) <|
    (FJ_Arrays_fill_1 ((t + 1) + 1 + 1 * (ix v5)) 32 0 M6).bind fun M40 =>
    nm (v5 + 1) fun v41 =>
    rec7 v41 M40) fuel 0 M4
def FX0_choose (p0 : Int64) (p2 : Int32) : Option (Int64) :=
  wl2 (fun (v1 : Int64) (v2 : Int32) rec3 =>
    if p2 ≤ v2 then
      some v1
    else
    gd (((v2 + 1).toInt64) != 0) <|
    nm ((v1 * (p0 - (v2.toInt64))) / ((v2 + 1).toInt64)) fun v6 =>
    nm (v2 + 1) fun v7 =>
    rec3 v6 v7) fuel 1 0
def FX0_fifteensWith (t : Nat) (p1 : Int32) (p2 : Int32) (M : Mem) : Option (Int64) :=
  nm (imx 0 (2 - p1)) fun v1 =>
  wl2 (fun (v2 : Int64) (v3 : Int32) rec4 =>
    jn0 (
      some v2) fun j6 =>
    if 3 < v3 then
      j6
    else
    if p2 < 0 then
      j6
    else
    if 31 < p2 then
      j6
    else
    gd (inb v3 4) <|
    gd (inb p2 32) <|
    (FX0_choose (((mI M t 7) - v3).toInt64) (3 - v3)).bind fun r12 =>
    nm (mR M t 4) fun v13 =>
    v13.bind fun b16 =>
    (FX10_countOf b16 1 1 (p1 + v3) M).bind fun r19 =>
    nm (v2 + (((mJ M ((t + 1) + 1 + 1 * (ix v3)) (ix p2)) * r12) * (r19.toInt64))) fun v20 =>
    nm (v3 + 1) fun v21 =>
    rec4 v20 v21) fuel 0 v1
def FX0_fifteens (t : Nat) (M : Mem) : Option (Int64) :=
  nm (mR M t 4) fun v1 =>
  v1.bind fun b4 =>
  nm (mR M t 4) fun v7 =>
  v7.bind fun b10 =>
  (FX10_valueOf b10 (mI M t 5) M).bind fun r13 =>
  nm ((mI M b4 4) - r13) fun v14 =>
  nm (mR M t 4) fun v15 =>
  v15.bind fun b18 =>
  nm (mR M t 4) fun v21 =>
  v21.bind fun b24 =>
  (FX10_valueOf b24 (mI M t 6) M).bind fun r27 =>
  nm ((mI M b18 4) - r27) fun v28 =>
  nm (mR M t 4) fun v29 =>
  v29.bind fun b32 =>
  (FX0_fifteensWith t 0 (mI M b32 4) M).bind fun r35 =>
  (FX0_fifteensWith t 1 v14 M).bind fun r36 =>
  (FX0_fifteensWith t 1 v28 M).bind fun r37 =>
  nm (mR M t 4) fun v38 =>
  v38.bind fun b41 =>
  (FX10_valueOf b41 (mI M t 6) M).bind fun r44 =>
  (FX0_fifteensWith t 2 (v14 - r44) M).bind fun r45 =>
  some (((r35 + r36) + r37) + r45)
def FX0_pairs (t : Nat) (M : Mem) : Option (Int64) :=
  wl2 (fun (v1 : Int64) (v2 : Int32) rec3 =>
    if 13 ≤ v2 then
      some v1
    else
    jn1 (fun (v5 : Int32) =>
      jn1 (fun (v8 : Int32) =>
        nm ((v5 + v8).toInt64) fun v11 =>
        gd (inb v2 13) <|
        nm ((mI M (t + 6) (ix v2)).toInt64) fun v14 =>
        (FX0_choose v11 2).bind fun r15 =>
        (FX0_choose ((mI M t 7).toInt64) 3).bind fun r16 =>
        (FX0_choose (((mI M t 7) - 1).toInt64) 2).bind fun r17 =>
        (FX0_choose v14 2).bind fun r18 =>
        nm (((r15 * r16) + ((v11 * v14) * r17)) + (r18 * (((mI M t 7) - 2).toInt64))) fun v19 =>
        nm (mR M t 4) fun v20 =>
        v20.bind fun b23 =>
        (FX10_countOf b23 2 1 v2 M).bind fun r26 =>
        nm (v1 + (v19 * (r26.toInt64))) fun v27 =>
        nm (v2 + 1) fun v28 =>
        rec3 v27 v28) fun j9 =>
      if ¬ ((mI M t 6) / 4) = v2 then
        j9 0
      else
      j9 1) fun j6 =>
    if ¬ ((mI M t 5) / 4) = v2 then
      j6 0
    else
    j6 1) fuel 0 0
def FX0_runsWith (t : Nat) (p1 : Int32) (p2 : Int32) (p3 : Int32) (M : Mem) : Option (Int64 × Mem) :=
  jn1 (fun (v1 : Int64) =>
    gd (inb p1 13) <|
    gd (inb p1 13) <|
    nm (sI M (t + 8) (ix p1) ((mI M (t + 8) (ix p1)) + 1)) fun M6 =>
    gd (inb p2 13) <|
    gd (inb p2 13) <|
    nm (sI M6 (t + 8) (ix p2) ((mI M6 (t + 8) (ix p2)) + 1)) fun M10 =>
    gd (inb p3 13) <|
    gd (inb p3 13) <|
    nm (sI M10 (t + 8) (ix p3) ((mI M10 (t + 8) (ix p3)) + 1)) fun M14 =>
    nm (mR M14 t 4) fun v16 =>
    v16.bind fun b20 =>
    (FX10_runsOf b20 (t + 8) 13 1 M14).bind fun r23 =>
    nm (r23.toInt64) fun v24 =>
    gd (inb p1 13) <|
    gd (inb p1 13) <|
    nm (sI M14 (t + 8) (ix p1) ((mI M14 (t + 8) (ix p1)) - 1)) fun M27 =>
    gd (inb p2 13) <|
    gd (inb p2 13) <|
    nm (sI M27 (t + 8) (ix p2) ((mI M27 (t + 8) (ix p2)) - 1)) fun M31 =>
    gd (inb p3 13) <|
    gd (inb p3 13) <|
    nm (sI M31 (t + 8) (ix p3) ((mI M31 (t + 8) (ix p3)) - 1)) fun M35 =>
    some ((v1 * v24), M35)) fun j2 =>
  if ¬ p1 = p3 then
    if ¬ p1 = p2 then
      if ¬ p2 = p3 then
        gd (inb p1 13) <|
        gd (inb p2 13) <|
        gd (inb p3 13) <|
        nm ((((mI M (t + 6) (ix p1)).toInt64) * ((mI M (t + 6) (ix p2)).toInt64)) * ((mI M (t + 6) (ix p3)).toInt64)) fun v43 =>
        j2 v43
      else
      gd (inb p2 13) <|
      (FX0_choose ((mI M (t + 6) (ix p2)).toInt64) 2).bind fun r46 =>
      gd (inb p1 13) <|
      nm (r46 * ((mI M (t + 6) (ix p1)).toInt64)) fun v49 =>
      j2 v49
    else
    gd (inb p1 13) <|
    (FX0_choose ((mI M (t + 6) (ix p1)).toInt64) 2).bind fun r52 =>
    gd (inb p3 13) <|
    nm (r52 * ((mI M (t + 6) (ix p3)).toInt64)) fun v55 =>
    j2 v55
  else
  gd (inb p1 13) <|
  (FX0_choose ((mI M (t + 6) (ix p1)).toInt64) 3).bind fun r58 =>
  j2 r58
def FX0_runs (t : Nat) (M : Mem) : Option (Int64 × Mem) :=
  (FJ_Arrays_fill_0 (t + 8) 13 0 M).bind fun M2 =>
  gd (inb ((mI M2 t 5) / 4) 13) <|
  gd (inb ((mI M2 t 5) / 4) 13) <|
  nm (sI M2 (t + 8) (ix ((mI M2 t 5) / 4)) ((mI M2 (t + 8) (ix ((mI M2 t 5) / 4))) + 1)) fun M5 =>
  gd (inb ((mI M5 t 6) / 4) 13) <|
  gd (inb ((mI M5 t 6) / 4) 13) <|
  nm (sI M5 (t + 8) (ix ((mI M5 t 6) / 4)) ((mI M5 (t + 8) (ix ((mI M5 t 6) / 4))) + 1)) fun M9 =>
  wl3 (fun (v11 : Int64) (v12 : Int32) (M13 : Mem) rec14 =>
    if 13 ≤ v12 then
      some (v11, M13)
    else
    wl3 (fun (v16 : Int64) (v17 : Int32) (M18 : Mem) rec19 =>
      if 13 ≤ v17 then
        nm (v12 + 1) fun v21 =>
        rec14 v16 v21 M18
      else
      wl3 (fun (v22 : Int64) (v23 : Int32) (M24 : Mem) rec25 =>
        if 13 ≤ v23 then
          nm (v17 + 1) fun v27 =>
          rec19 v22 v27 M24
        else
        bdM (FX0_runsWith t v12 v17 v23 M24) fun r29 M28 =>
        nm (v22 + r29) fun v30 =>
        nm (v23 + 1) fun v31 =>
        rec25 v30 v31 M28) fuel v16 v17 M18) fuel v11 v12 M13) fuel 0 0 M9
def FX0_flushes (t : Nat) (M : Mem) : Option (Int64) :=
  nm (irm (mI M t 5) 4) fun v1 =>
  if (irm (mI M t 6) 4) = v1 then
    gd (inb v1 4) <|
    (FX0_choose ((mI M (t + 7) (ix v1)).toInt64) 3).bind fun r4 =>
    nm (mR M t 4) fun v5 =>
    (FX10_flushItem v1 5).bind fun r8 =>
    v5.bind fun b9 =>
    (FX10_countOf b9 4 1 r8 M).bind fun r12 =>
    some (r4 * (r12.toInt64))
  else
  some 0
def FX0_nobs (t : Nat) (p1 : Int64) (M : Mem) : Option (Int64) :=
  wl2 (fun (v1 : Int64) (v2 : Int32) rec3 =>
    if 4 ≤ v2 then
      some v1
    else
    nm (40 + v2) fun v5 =>
    jn1 (fun (v6 : Int64) =>
      nm (mR M t 4) fun v9 =>
      v9.bind fun b12 =>
      (FX10_countOf b12 5 1 v2 M).bind fun r15 =>
      nm (v1 + (v6 * (r15.toInt64))) fun v16 =>
      nm (v2 + 1) fun v17 =>
      rec3 v16 v17) fun j7 =>
    jn0 (
      gd (inb v2 4) <|
      (FX0_choose (((mI M t 7) - 1).toInt64) 2).bind fun r22 =>
      nm (((mI M (t + 7) (ix v2)).toInt64) * r22) fun v23 =>
      j7 v23) fun j18 =>
    if (mI M t 5) = v5 then
      j18
    else
    if ¬ (mI M t 6) = v5 then
      (FX11_has p1 v5).bind fun r24 =>
      if r24 = 0 then
        j7 0
      else
      gd (inb v2 4) <|
      nm ((((mI M (t + 7) (ix v2)).toInt64) - 1) * (((mI M t 7) - 2).toInt64)) fun v27 =>
      j7 v27
    else
    j18) fuel 0 0
def FX0_of (t : Nat) (p1 : Int32) (p2 : Int32) (p3 : Int64) (p5 : Nat) (M : Mem) : Option (Int64 × Mem) :=
  nm (sR M t 4 (some p5)) fun M1 =>
  nm (sI M1 t 5 p1) fun M2 =>
  nm (sI M2 t 6 p2) fun M3 =>
  (FJ_Long_bitCount p3).bind fun r4 =>
  nm (sI M3 t 7 r4) fun M5 =>
  (FX0_sortFree t p3 M5).bind fun M6 =>
  (FX0_fifteens t M6).bind fun r7 =>
  (FX0_pairs t M6).bind fun r8 =>
  bdM (FX0_runs t M6) fun r10 M9 =>
  (FX0_flushes t M9).bind fun r11 =>
  (FX0_nobs t p3 M9).bind fun r12 =>
  some (((3 * (((r7 + r8) + r10) + r11)) + r12), M9)
def FX11_cribOf (t : Nat) (p1 : Int32) (p2 : Int32) (M : Mem) : Option (Int64 × Mem) :=
  (FX11_isCard p1).bind fun r1 =>
  jn0 (
    some ((-1), M)) fun j2 =>
  if r1 = 0 then
    j2
  else
  (FX11_isCard p2).bind fun r4 =>
  if r4 = 0 then
    j2
  else
  if ¬ p1 = p2 then
    (FX10_fit (t + 179) (t + 1) (mI M (t + 1) 8) ((t + 1) + 1) M).bind fun M10 =>
    (FX11_bit p1).bind fun r13 =>
    (FX11_bit p2).bind fun r14 =>
    bdM (FX0_of (t + 228) p1 p2 (((4503599627370495 &&& ((mJ M10 (t + 1) 5) ^^^ (-1))) &&& (r13 ^^^ (-1))) &&& (r14 ^^^ (-1))) (t + 179) M10) fun r17 M16 =>
    some (r17, M16)
  else
  j2
def FX11_takeHeld (t : Nat) (M : Mem) : Option (Mem) :=
  (FX10_fit (t + 179) (t + 1) (mI M (t + 1) 8) ((t + 1) + 1) M).bind fun M6 =>
  (FX2_take (t + 203) (mJ M6 (t + 1) 5) 0 (t + 179) M6).bind fun M10 =>
  some M10
def FX11_byStarters (t : Nat) (p1 : Int32) (M : Mem) : Option (Int32 × Mem) :=
  jn0 (
    some ((-1), M)) fun j1 =>
  if p1 < 0 then
    j1
  else
  if 999 < p1 then
    j1
  else
  (FJ_Long_bitCount (mJ M (t + 1) 5)).bind fun r4 =>
  if r4 = 4 then
    (FX11_takeHeld t M).bind fun M5 =>
    wl2 (fun (v6 : Int32) (v7 : Int32) rec8 =>
      if 52 ≤ v7 then
        some (v6, M5)
      else
      (FX11_has (mJ M5 (t + 1) 5) v7).bind fun r11 =>
      jn1 (fun (v12 : Int32) =>
        nm (v7 + 1) fun v15 =>
        rec8 v12 v15) fun j13 =>
      if ¬ r11 = 0 then
        j13 v6
      else
      (FX2_part (t + 203) v7 0 M5).bind fun r17 =>
      if r17 < p1 then
        j13 v6
      else
      nm (v6 + 1) fun v18 =>
      j13 v18) fuel 0 0
  else
  j1
def FX11_bestStarter (t : Nat) (p1 : Int32) (M : Mem) : Option (Int32 × Mem) :=
  jn0 (
    some ((-1), M)) fun j1 =>
  if p1 < 0 then
    j1
  else
  if 1 < p1 then
    j1
  else
  (FJ_Long_bitCount (mJ M (t + 1) 5)).bind fun r4 =>
  if r4 = 4 then
    (FX11_takeHeld t M).bind fun M5 =>
    wl3 (fun (v6 : Int32) (v7 : Int32) (v8 : Int32) rec9 =>
      if 52 ≤ v8 then
        jn1 (fun (v11 : Int32) =>
          some (v11, M5)) fun j12 =>
        if ¬ p1 = 0 then
          j12 v7
        else
        j12 v6
      else
      (FX11_has (mJ M5 (t + 1) 5) v8).bind fun r15 =>
      jn2 (fun (v16 : Int32) (v17 : Int32) =>
        nm (v8 + 1) fun v20 =>
        rec9 v16 v17 v20) fun j18 =>
      if ¬ r15 = 0 then
        j18 v6 v7
      else
      (FX2_part (t + 203) v8 0 M5).bind fun r22 =>
      if r22 ≤ v7 then
        j18 v6 v7
      else
      (FX2_part (t + 203) v8 0 M5).bind fun r24 =>
      j18 v8 r24) fuel (-1) (-1) 0
  else
  j1
def FX1_best (t : Nat) (p1 : Int32) (p2 : Nat) (rB : Nat → Int32 → Nat → Mem → Option (Int32 × Mem)) (M : Mem) : Option (Int32 × Mem) :=
  jn0 (
    some (0, M)) fun j1 =>
  if p1 < 0 then
    j1
  else
  if 9 ≤ (p1 + 1) then
    j1
  else
  gd (inb p1 9) <|
  if ¬ (mI M ((t + 1) + 1 + 4 * (ix p1)) 10) = (-1) then
    gd (inb p1 9) <|
    gd (inb (p1 + 1) 9) <|
    (FX8_playable ((t + 1) + 1 + 4 * (ix p1)) (mI M ((t + 1) + 1 + 4 * (ix p1)) 10) p2 M).bind fun r13 =>
    wl4 (fun (v14 : Int64) (v15 : Int32) (v16 : Int32) (M17 : Mem) rec18 =>
      jn0 (
        some (v15, M17)) fun j20 =>
      if 6 ≤ v16 then
        j20
      else
      if v14 = 0 then
        j20
      else
      (FX11_lowest v14).bind fun r22 =>
      nm (v14 &&& (v14 - 1)) fun v23 =>
      (FX8_copyFrom ((t + 1) + 1 + 4 * (ix (p1 + 1))) ((t + 1) + 1 + 4 * (ix p1)) M17).bind fun M24 =>
      bdM (FX8_putDown ((t + 1) + 1 + 4 * (ix (p1 + 1))) r22 p2 M24) fun r26 M25 =>
      bdM (rB t (p1 + 1) p2 M25) fun r28 M27 =>
      jn1 (fun (v29 : Int32) =>
        nm (r26 + v29) fun v32 =>
        jn2 (fun (v33 : Int32) (M34 : Mem) =>
          nm (v16 + 1) fun v37 =>
          rec18 v23 v33 v37 M34) fun j35 =>
        if v32 ≤ v15 then
          j35 v15 M27
        else
        if ¬ p1 = 0 then
          j35 v32 M27
        else
        nm (sI M27 t 1 r22) fun M38 =>
        j35 v32 M38) fun j30 =>
      if ¬ (mI M27 ((t + 1) + 1 + 4 * (ix (p1 + 1))) 10) = (mI M27 ((t + 1) + 1 + 4 * (ix p1)) 10) then
        j30 (-r28)
      else
      j30 r28) fuel r13 (-1000000) 0 M
  else
  j1
def GX1_best : Nat → Nat → Int32 → Nat → Mem → Option (Int32 × Mem)
  | 0 => fun _ _ _ _ => none
  | n + 1 => fun t p1 p2 M => FX1_best t p1 p2 (GX1_best n) M
def FX1_bestR (t : Nat) (p1 : Int32) (p2 : Nat) (M : Mem) : Option (Int32 × Mem) := GX1_best 10 t p1 p2 M
def FX1_most (t : Nat) (p1 : Nat) (p2 : Nat) (M : Mem) : Option (Int32 × Mem) :=
  (FX8_copyFrom ((t + 1) + 1 + 4 * 0) p1 M).bind fun M3 =>
  bdM (FX1_bestR t 0 p2 M3) fun r5 M4 =>
  some (r5, M4)
def FX11_toEnd (t : Nat) (p1 : Int32) (M : Mem) : Option (Int32 × Mem) :=
  jn0 (
    some ((-1000), M)) fun j1 =>
  if p1 < 0 then
    j1
  else
  if 1 < p1 then
    j1
  else
  if ¬ (mI M ((t + 1) + 1) 10) = (-1) then
    (FX10_fit (t + 179) (t + 1) (mI M (t + 1) 8) ((t + 1) + 1) M).bind fun M10 =>
    (FX8_playable ((t + 1) + 1) (mI M10 ((t + 1) + 1) 10) (t + 179) M10).bind fun r16 =>
    if ¬ r16 = 0 then
      bdM (FX1_most (t + 237) ((t + 1) + 1) (t + 179) M10) fun r22 M21 =>
      jn1 (fun (v23 : Int32) =>
        some (v23, M21)) fun j24 =>
      if ¬ p1 = 0 then
        j24 (mI M21 (t + 237) 1)
      else
      j24 r22
    else
    some ((-1000), M10)
  else
  j1
def FX11_seen (t : Nat) (p1 : Int32) (p2 : Int32) (M : Mem) : Option (Int32 × Mem) :=
  (FX11_isCard p1).bind fun r1 =>
  jn0 (
    bdM (FX11_refuse t (-1) M) fun r5 M4 =>
    some (r5, M4)) fun j2 =>
  if r1 = 0 then
    j2
  else
  if p2 < 0 then
    j2
  else
  if p2 ≤ 999 then
    if (mI M (t + 1) 6) < 6 then
      gd (inb (mI M (t + 1) 6) 6) <|
      nm (sI M ((t + 1) + 5) (ix (mI M (t + 1) 6)) p1) fun M10 =>
      gd (inb (mI M10 (t + 1) 6) 6) <|
      nm (sI M10 ((t + 1) + 6) (ix (mI M10 (t + 1) 6)) p2) fun M15 =>
      nm (sI M15 (t + 1) 6 ((mI M15 (t + 1) 6) + 1)) fun M18 =>
      bdM (FX11_grant t (mI M18 (t + 1) 6) M18) fun r21 M20 =>
      some (r21, M20)
    else
    bdM (FX11_refuse t (-5) M) fun r23 M22 =>
    some (r23, M22)
  else
  j2
def FX11_forget (t : Nat) (M : Mem) : Option (Int32 × Mem) :=
  nm (mI M (t + 1) 6) fun v2 =>
  nm (sI M (t + 1) 6 0) fun M4 =>
  some (v2, M4)
def FX3_likely (t : Nat) (p1 : Nat) (M : Mem) : Option (Int32) :=
  wl2 (fun (v1 : Int32) (v2 : Int32) rec3 =>
    if 15 ≤ v2 then
      some v1
    else
    wl2 (fun (v5 : Int32) (v6 : Int32) rec7 =>
      jn0 (
        jn1 (fun (v11 : Int32) =>
          nm (v1 ||| v11) fun v14 =>
          nm (v2 + 1) fun v15 =>
          rec3 v14 v15) fun j12 =>
        if v5 = 0 then
          j12 0
        else
        j12 (1 <<< (v2 &&& 31))) fun j9 =>
      if (mI M p1 6) ≤ v6 then
        j9
      else
      if 6 ≤ v6 then
        j9
      else
      gd (inb v6 6) <|
      nm (mI M (p1 + 5) (ix v6)) fun v18 =>
      jn1 (fun (v19 : Int32) =>
        nm (v6 + 1) fun v22 =>
        rec7 v19 v22) fun j20 =>
      jn0 (
        j20 0) fun j23 =>
      if v5 = 0 then
        j23
      else
      (FX11_isCard v18).bind fun r25 =>
      if r25 = 0 then
        j23
      else
      gd (inb v2 15) <|
      gd (inb v18 52) <|
      gd (inb v6 6) <|
      if ¬ (mI M ((t + 1) + 1 + 1 * (ix v2)) (ix v18)) = (mI M (p1 + 6) (ix v6)) then
        j23
      else
      j20 1) fuel 1 0) fuel 0 0
def FX11_canBe (t : Nat) (M : Mem) : Option (Int32 × Mem) :=
  (FJ_Long_bitCount (mJ M (t + 1) 5)).bind fun r2 =>
  if r2 = 6 then
    (FX11_countFours t M).bind fun M3 =>
    (FX3_likely (t + 209) (t + 1) M3).bind fun r6 =>
    some (r6, M3)
  else
  some ((-1), M)
def FX3_mostAlike (t : Nat) (p1 : Int32) (p2 : Int32) (M : Mem) : Option (Int32) :=
  wl2 (fun (v1 : Int32) (v2 : Int32) rec3 =>
    jn0 (
      some v1) fun j5 =>
    if 15 ≤ v2 then
      j5
    else
    (FX11_isCard p2).bind fun r7 =>
    if r7 = 0 then
      j5
    else
    wl2 (fun (v8 : Int32) (v9 : Int32) rec10 =>
      jn0 (
        nm (imx v1 v8) fun v14 =>
        nm (v2 + 1) fun v15 =>
        rec3 v14 v15) fun j12 =>
      if 15 ≤ v9 then
        j12
      else
      if ¬ ((p1 >>> (v2 &&& 31)) &&& 1) = 1 then
        j12
      else
      jn1 (fun (v16 : Int32) =>
        nm (v9 + 1) fun v19 =>
        rec10 v16 v19) fun j17 =>
      if ¬ ((p1 >>> (v9 &&& 31)) &&& 1) = 1 then
        j17 v8
      else
      gd (inb v9 15) <|
      gd (inb p2 52) <|
      gd (inb v2 15) <|
      gd (inb p2 52) <|
      if ¬ (mI M ((t + 1) + 1 + 1 * (ix v9)) (ix p2)) = (mI M ((t + 1) + 1 + 1 * (ix v2)) (ix p2)) then
        j17 v8
      else
      nm (v8 + 1) fun v28 =>
      j17 v28) fuel 0 v2) fuel 0 0
def FX3_sharpest (t : Nat) (p1 : Int32) (M : Mem) : Option (Int32) :=
  wl3 (fun (v1 : Int32) (v2 : Int32) (v3 : Int32) rec4 =>
    if 52 ≤ v3 then
      some v1
    else
    (FX11_has (mJ M t 3) v3).bind fun r6 =>
    jn1 (fun (v7 : Int32) =>
      jn2 (fun (v10 : Int32) (v11 : Int32) =>
        nm (v3 + 1) fun v14 =>
        rec4 v10 v11 v14) fun j12 =>
      if v2 ≤ v7 then
        j12 v1 v2
      else
      j12 v3 v7) fun j8 =>
    if r6 = 0 then
      (FX3_mostAlike t p1 v3 M).bind fun r15 =>
      j8 r15
    else
    j8 v2) fuel (-1) 16 0
def FX11_ask (t : Nat) (p1 : Int32) (M : Mem) : Option (Int32 × Mem) :=
  jn0 (
    some ((-1), M)) fun j1 =>
  if p1 < 0 then
    j1
  else
  if 1 < p1 then
    j1
  else
  (FJ_Long_bitCount (mJ M (t + 1) 5)).bind fun r4 =>
  if r4 = 6 then
    (FX11_countFours t M).bind fun M5 =>
    (FX3_likely (t + 209) (t + 1) M5).bind fun r8 =>
    if ¬ r8 = 0 then
      (FX3_sharpest (t + 209) r8 M5).bind fun r10 =>
      jn1 (fun (v11 : Int32) =>
        some (v11, M5)) fun j12 =>
      if ¬ p1 = 0 then
        (FX3_mostAlike (t + 209) r8 r10 M5).bind fun r15 =>
        j12 r15
      else
      j12 r10
    else
    some ((-1), M5)
  else
  j1
def FX11_compare (t : Nat) (p1 : Int32) (p2 : Int32) (M : Mem) : Option (Int32 × Mem) :=
  (FX11_isLaw t p1 M).bind fun r1 =>
  jn0 (
    some ((-1), M)) fun j2 =>
  if r1 = 0 then
    j2
  else
  (FX11_canCount t p2 M).bind fun r4 =>
  if ¬ r4 = 0 then
    (FX10_fit (t + 191) (t + 1) p1 ((t + 1) + 1) M).bind fun M9 =>
    (FX2_take (t + 203) (mJ M9 (t + 1) 5) 0 (t + 191) M9).bind fun M13 =>
    (FX2_part (t + 203) p2 0 M13).bind fun r15 =>
    some (r15, M13)
  else
  j2
def FX11_highest (p0 : Int64) : Option (Int32) :=
  (FJ_Long_bitCount p0).bind fun r1 =>
  (FX11_cardAt p0 (r1 - 1)).bind fun r2 =>
  some r2
def FX11_playRubber (t : Nat) (M : Mem) : Option (Mem) :=
  nm (1 - (mI M (t + 167) 6)) fun v2 =>
  wl2 (fun (v3 : Int32) (M4 : Mem) rec5 =>
    if 4 ≤ v3 then
      wl2 (fun (v7 : Int32) (M8 : Mem) rec9 =>
        jn0 (
          bdM (FX11_showAll t (t + 167) M8) fun r15 M14 =>
          some M14) fun j11 =>
        if 8 ≤ v7 then
          j11
        else
        if (mI M8 (t + 167) 10) = (-1) then
          j11
        else
        (FX8_playable (t + 167) (mI M8 (t + 167) 10) (t + 179) M8).bind fun r21 =>
        (FX11_lowest r21).bind fun r22 =>
        bdM (FX8_putDown (t + 167) r22 (t + 179) M8) fun r25 M24 =>
        nm (v7 + 1) fun v26 =>
        rec9 v26 M24) fuel 0 M4
    else
    jn1 (fun (v27 : Int32) =>
      (FX8_handOf (t + 167) v27 M4).bind fun r32 =>
      (FX11_highest r32).bind fun r33 =>
      (FX8_layAway (t + 167) r33 v27 (t + 179) M4).bind fun M35 =>
      nm (v3 + 1) fun v36 =>
      rec5 v36 M35) fun j28 =>
    if 2 ≤ v3 then
      j28 (mI M4 (t + 167) 6)
    else
    j28 v2) fuel 0 M
def FX11_rubbers (t : Nat) (p1 : Int32) (p2 : Int32) (M : Mem) : Option (Int32 × Mem) :=
  jn0 (
    bdM (FX11_refuse t (-1) M) fun r4 M3 =>
    some (r4, M3)) fun j1 =>
  if p1 < 0 then
    j1
  else
  if 1000000 < p1 then
    j1
  else
  if p2 < 1 then
    j1
  else
  if p2 ≤ 20 then
    (FX8_copyFrom (t + 167) ((t + 1) + 1) M).bind fun M8 =>
    nm ((mI M8 ((t + 167) + 2) 0) + (mI M8 ((t + 167) + 2) 1)) fun v13 =>
    wl3 (fun (v14 : Int32) (v15 : Int32) (M16 : Mem) rec17 =>
      jn0 (
        nm (sI M16 (t + 276) 0 (mI M16 ((t + 167) + 2) 0)) fun M24 =>
        nm (sI M24 (t + 276) 1 (mI M24 ((t + 167) + 2) 1)) fun M28 =>
        bdM (FX11_grant t (((mI M28 ((t + 167) + 2) 0) + (mI M28 ((t + 167) + 2) 1)) - v13) M28) fun r34 M33 =>
        some (r34, M33)) fun j19 =>
      if p2 ≤ v15 then
        j19
      else
      if 999 ≤ (mI M16 (t + 167) 12) then
        j19
      else
      bdM (FX8_dealOut (t + 167) v14 M16) fun r38 M37 =>
      (FX10_fit (t + 179) (t + 1) (mI M37 (t + 1) 8) (t + 167) M37).bind fun M43 =>
      (FX11_playRubber t M43).bind fun M44 =>
      nm (v15 + 1) fun v45 =>
      rec17 r38 v45 M44) fuel p1 0 M8
  else
  j1
def FX11_drawn (t : Nat) (p1 : Int32) (M : Mem) : Option (Int32) :=
  (FX11_isPlayer p1).bind fun r1 =>
  jn1 (fun (v2 : Int32) =>
    some v2) fun j3 =>
  if r1 = 0 then
    j3 (-1)
  else
  gd (inb p1 2) <|
  j3 (mI M (t + 276) (ix p1))
def FX6_copyFrom (t : Nat) (p1 : Nat) (M : Mem) : Option (Mem) :=
  (FX8_copyFrom (t + 1) (p1 + 1) M).bind fun M3 =>
  nm (aI M3 (t + 5) (va_cpy (mI M3 (p1 + 5)) (mI M3 (t + 5)) 0 0 6)) fun M6 =>
  nm (aI M6 (t + 6) (va_cpy (mI M6 (p1 + 6)) (mI M6 (t + 6)) 0 0 6)) fun M9 =>
  nm (aI M9 (t + 8) (va_cpy (mI M9 (p1 + 8)) (mI M9 (t + 8)) 0 0 3)) fun M13 =>
  wl2 (fun (v14 : Int32) (M15 : Mem) rec16 =>
    if 6 ≤ v14 then
      nm (sJ M15 t 5 (mJ M15 p1 5)) fun M18 =>
      nm (sI M18 t 6 (mI M18 p1 6)) fun M19 =>
      nm (sI M19 t 7 (mI M19 p1 7)) fun M20 =>
      nm (sI M20 t 8 (mI M20 p1 8)) fun M21 =>
      some M21
    else
    gd (inb v14 6) <|
    nm (mR M15 (p1 + 7) (ix v14)) fun v26 =>
    gd (inb v14 6) <|
    nm (sR M15 (t + 7) (ix v14) v26) fun M28 =>
    nm (v14 + 1) fun v30 =>
    rec16 v30 M28) fuel 0 M13
def FX11_image (t : Nat) (p1 : Int32) (M : Mem) : Option (Int32 × Mem) :=
  jn0 (
    bdM (FX11_refuse t (-1) M) fun r4 M3 =>
    some (r4, M3)) fun j1 =>
  if p1 < 0 then
    j1
  else
  if p1 < 2 then
    gd (inb p1 2) <|
    (FX6_copyFrom ((t + 10) + 1 + 9 * (ix p1)) (t + 1) M).bind fun M10 =>
    gd (inb p1 2) <|
    nm (sI M10 ((t + 10) + 1 + 9 * (ix p1)) 9 1) fun M14 =>
    bdM (FX11_grant t 0 M14) fun r16 M15 =>
    some (r16, M15)
  else
  j1
def FX11_back (t : Nat) (p1 : Int32) (M : Mem) : Option (Int32 × Mem) :=
  jn0 (
    bdM (FX11_refuse t (-1) M) fun r4 M3 =>
    some (r4, M3)) fun j1 =>
  if p1 < 0 then
    j1
  else
  if p1 < 2 then
    gd (inb p1 2) <|
    if ¬ (mI M ((t + 10) + 1 + 9 * (ix p1)) 9) = 0 then
      gd (inb p1 2) <|
      (FX6_copyFrom (t + 1) ((t + 10) + 1 + 9 * (ix p1)) M).bind fun M13 =>
      (FX4_clear (t + 29) M13).bind fun M15 =>
      bdM (FX11_grant t 0 M15) fun r17 M16 =>
      some (r17, M16)
    else
    bdM (FX11_refuse t (-2) M) fun r19 M18 =>
    some (r19, M18)
  else
  j1
def FX12_tell (t : Nat) (p1 : Int32) (M : Mem) : Option (Int32 × Mem) :=
  jn1 (fun (v1 : Int32) =>
    nm (sI M t 1 v1) fun M4 =>
    jn1 (fun (M5 : Mem) =>
      some (p1, M5)) fun j6 =>
    if 0 ≤ p1 then
      j6 M4
    else
    gd (inb (-p1) 7) <|
    gd (inb (-p1) 7) <|
    nm (sI M4 (t + 1) (ix (-p1)) ((mI M4 (t + 1) (ix (-p1))) + 1)) fun M10 =>
    j6 M10) fun j2 =>
  if 0 ≤ p1 then
    j2 0
  else
  j2 p1
def FX12_putBack (t : Nat) (p1 : Int32) (M : Mem) : Option (Mem) :=
  wl2 (fun (v1 : Int32) (M2 : Mem) rec3 =>
    if 122 ≤ v1 then
      some M2
    else
    gd (inb ((122 * p1) + v1) 2196) <|
    gd (inb (8 + v1) 5594) <|
    nm (sI M2 (t + 2) (ix (8 + v1)) (mI M2 (t + 5) (ix ((122 * p1) + v1)))) fun M8 =>
    nm (v1 + 1) fun v10 =>
    rec3 v10 M8) fuel 0 M
def FX12_undo (t : Nat) (M : Mem) : Option (Int32 × Mem) :=
  nm (sI M t 0 0) fun M1 =>
  if ¬ (mI M1 t 8) = 0 then
    nm (sI M1 t 8 ((mI M1 t 8) - 1)) fun M2 =>
    (FX12_putBack t (mI M2 t 8) M2).bind fun M3 =>
    gd (inb (mI M3 t 8) 16) <|
    bdM (FX12_tell t (mI M3 (t + 6) (ix (mI M3 t 8))) M3) fun r7 M6 =>
    some (r7, M6)
  else
  bdM (FX12_tell t (-3) M1) fun r9 M8 =>
  some (r9, M8)
def FX12_in (p0 : Int64) (p2 : Int64) (p4 : Int64) : Option (Int32) :=
  jn1 (fun (v1 : Int32) =>
    gd (isB v1) <|
    some v1) fun j2 =>
  jn0 (
    j2 0) fun j5 =>
  if p0 < p2 then
    j5
  else
  if p4 < p0 then
    j5
  else
  j2 1
def FX12_image (t : Nat) (p1 : Int32) (M : Mem) : Option (Int32 × Mem) :=
  nm (sI M t 0 0) fun M1 =>
  (FX12_in (p1.toInt64) 0 1).bind fun r2 =>
  if ¬ r2 = 0 then
    wl2 (fun (v3 : Int32) (M4 : Mem) rec5 =>
      if 5594 ≤ v3 then
        gd (inb p1 2) <|
        nm (sI M4 (t + 4) (ix p1) 1) fun M8 =>
        bdM (FX12_tell t 0 M8) fun r11 M10 =>
        some (r11, M10)
      else
      gd (inb v3 5594) <|
      gd (inb ((5594 * p1) + v3) 11188) <|
      nm (sI M4 (t + 3) (ix ((5594 * p1) + v3)) (mI M4 (t + 2) (ix v3))) fun M15 =>
      nm (v3 + 1) fun v17 =>
      rec5 v17 M15) fuel 0 M1
  else
  bdM (FX12_tell t (-1) M1) fun r19 M18 =>
  some (r19, M18)
def FX12_lasting (t : Nat) (p1 : Int32) (M : Mem) : Option (Int32 × Mem) :=
  jn1 (fun (v1 : Int32) =>
    nm (sI M t 8 v1) fun M4 =>
    bdM (FX12_tell t p1 M4) fun r6 M5 =>
    some (r6, M5)) fun j2 =>
  if 0 ≤ p1 then
    j2 0
  else
  j2 (mI M t 8)
def FX12_back (t : Nat) (p1 : Int32) (M : Mem) : Option (Int32 × Mem) :=
  nm (sI M t 0 0) fun M1 =>
  (FX12_in (p1.toInt64) 0 1).bind fun r2 =>
  if ¬ r2 = 0 then
    gd (inb p1 2) <|
    if ¬ (mI M1 (t + 4) (ix p1)) = 0 then
      wl2 (fun (v5 : Int32) (M6 : Mem) rec7 =>
        if 5594 ≤ v5 then
          bdM (FX12_lasting t 0 M6) fun r10 M9 =>
          some (r10, M9)
        else
        gd (inb ((5594 * p1) + v5) 11188) <|
        gd (inb v5 5594) <|
        nm (sI M6 (t + 2) (ix v5) (mI M6 (t + 3) (ix ((5594 * p1) + v5)))) fun M14 =>
        nm (v5 + 1) fun v16 =>
        rec7 v16 M14) fuel 0 M1
    else
    bdM (FX12_tell t (-2) M1) fun r18 M17 =>
    some (r18, M17)
  else
  bdM (FX12_tell t (-1) M1) fun r20 M19 =>
  some (r20, M19)
def FX12_isCard (p0 : Int32) : Option (Int32) :=
  (FX12_in (p0.toInt64) 0 51).bind fun r1 =>
  gd (isB r1) <|
  some r1
def FX12_rankOf (p0 : Int32) : Option (Int32) :=
  some (p0 / 4)
def FX12_cardOf (t : Nat) (p1 : Int32) (p2 : Int32) (M : Mem) : Option (Int32) :=
  wl3 (fun (v1 : Int32) (v2 : Int32) (v3 : Int32) rec4 =>
    if 52 ≤ v3 then
      some v1
    else
    gd (inb (18 + v3) 5594) <|
    jn2 (fun (v8 : Int32) (v9 : Int32) =>
      nm (v3 + 1) fun v12 =>
      rec4 v8 v9 v12) fun j10 =>
    if ¬ (mI M (t + 2) (ix (18 + v3))) = p1 then
      j10 v1 v2
    else
    jn1 (fun (v13 : Int32) =>
      nm (v2 + 1) fun v16 =>
      j10 v13 v16) fun j14 =>
    if ¬ v2 = p2 then
      j14 v1
    else
    j14 v3) fuel (-1) 0 0
def FX12_reckon (t : Nat) (p1 : Int32) (p2 : Int64) (p4 : Int64) (M : Mem) : Option (Int64 × Mem) :=
  sw p1.toInt 20 [
    some ((p2 + p4), M),
    some ((p2 - p4), M),
    some ((p2 * p4), M),
    jn1 (fun (v4 : Int32) =>
      gd (isB v4) <|
      nm (sI M t 38 v4) fun M7 =>
      jn1 (fun (v9 : Int64) =>
        some (v9, M7)) fun j10 =>
      if (mI M7 t 38) = 0 then
        gd (p4 != 0) <|
        j10 (p2 / p4)
      else
      j10 0) fun j5 =>
    if ¬ p4 = 0 then
      j5 0
    else
    j5 1,
    jn1 (fun (v13 : Int32) =>
      gd (isB v13) <|
      nm (sI M t 38 v13) fun M16 =>
      jn1 (fun (v18 : Int64) =>
        some (v18, M16)) fun j19 =>
      if (mI M16 t 38) = 0 then
        gd (p4 != 0) <|
        j19 (lrm p2 p4)
      else
      j19 0) fun j14 =>
    if ¬ p4 = 0 then
      j14 0
    else
    j14 1,
    jn1 (fun (v22 : Int64) =>
      some (v22, M)) fun j23 =>
    if p4 ≤ p2 then
      j23 0
    else
    j23 1,
    jn1 (fun (v25 : Int64) =>
      some (v25, M)) fun j26 =>
    if p2 ≤ p4 then
      j26 0
    else
    j26 1]
  (jn1 (fun (v1 : Int64) =>
      some (v1, M)) fun j2 =>
    if ¬ p2 = p4 then
      j2 0
    else
    j2 1)
def FX12_reckonAll (t : Nat) (p1 : Int32) (p2 : Int32) (M : Mem) : Option (Mem) :=
  nm (sI M t 38 0) fun M1 =>
  wl3 (fun (v2 : Int32) (v3 : Int32) (M4 : Mem) rec5 =>
    jn0 (
      jn1 (fun (v9 : Int64) =>
        nm (sJ M4 t 39 v9) fun M12 =>
        some M12) fun j10 =>
      if v2 ≤ 0 then
        j10 0
      else
      j10 (mJ M4 (t + 20) 0)) fun j7 =>
    if p2 ≤ v3 then
      j7
    else
    if ¬ (mI M4 t 38) = 0 then
      j7
    else
    jn1 (fun (v14 : Int32) =>
      jn1 (fun (v17 : Int32) =>
        nm (v3 + 1) fun v20 =>
        jn3 (fun (v21 : Int32) (v22 : Int32) (M23 : Mem) =>
          rec5 v21 v22 M23) fun j24 =>
        if 20 ≤ v14 then
          if 28 ≤ v14 then
            if ¬ v14 = 28 then
              gd (inb (v2 - 1) 400) <|
              jn1 (fun (v28 : Int64) =>
                if ¬ (mJ M4 (t + 20) (ix (v2 - 1))) = v28 then
                  nm (v2 + (-1)) fun v31 =>
                  j24 v31 v20 M4
                else
                j24 v2 v17 M4) fun j29 =>
              if ¬ v14 = 29 then
                j29 1
              else
              j29 0
            else
            gd (inb (v2 - 1) 400) <|
            gd (inb (v2 - 1) 400) <|
            nm (sJ M4 (t + 20) (ix (v2 - 1)) (1 - (mJ M4 (t + 20) (ix (v2 - 1))))) fun M35 =>
            j24 v2 v20 M35
          else
          nm (v2 + (-1)) fun v37 =>
          gd (inb (v37 - 1) 400) <|
          gd (inb v37 400) <|
          bdM (FX12_reckon t v14 (mJ M4 (t + 20) (ix (v37 - 1))) (mJ M4 (t + 20) (ix v37)) M4) fun r44 M43 =>
          gd (inb (v37 - 1) 400) <|
          nm (sJ M43 (t + 20) (ix (v37 - 1)) r44) fun M45 =>
          jn1 (fun (v47 : Int32) =>
            gd (isB v47) <|
            nm (sI M45 t 38 v47) fun M50 =>
            j24 v37 v20 M50) fun j48 =>
          jn0 (
            j48 1) fun j52 =>
          if ¬ (mI M45 t 38) = 0 then
            j52
          else
          gd (inb (v37 - 1) 400) <|
          (FX12_in (mJ M45 (t + 20) (ix (v37 - 1))) (-1000000000) 1000000000).bind fun r56 =>
          if ¬ r56 = 0 then
            j48 0
          else
          j52
        else
        jn1 (fun (v58 : Int64) =>
          gd (inb v2 400) <|
          nm (sJ M4 (t + 20) (ix v2) v58) fun M61 =>
          nm (v2 + 1) fun v63 =>
          j24 v63 v20 M61) fun j59 =>
        if ¬ v14 = 0 then
          if ¬ (mI M4 t 20) = 0 then
            if 6 ≤ v14 then
              if ¬ v14 = 6 then
                (FX12_cardOf t (v17 / 6) (irm v17 6) M4).bind fun r64 =>
                j59 (r64.toInt64)
              else
              gd (inb (16 + v17) 5594) <|
              j59 ((mI M4 (t + 2) (ix (16 + v17))).toInt64)
            else
            gd (inb v14 13) <|
            j59 (mJ M4 (t + 19) (ix v14))
          else
          gd (inb v14 13) <|
          j59 (mJ M4 (t + 18) (ix v14))
        else
        j59 (v17.toInt64)) fun j18 =>
      if (mI M4 t 20) = 0 then
        gd (inb ((((mI M4 t 34) + 98) + (2 * v3)) + 1) 5594) <|
        j18 (mI M4 (t + 2) (ix ((((mI M4 t 34) + 98) + (2 * v3)) + 1)))
      else
      gd (inb v3 400) <|
      j18 (mI M4 (t + 12) (ix v3))) fun j15 =>
    if (mI M4 t 20) = 0 then
      gd (inb (((mI M4 t 34) + 98) + (2 * v3)) 5594) <|
      j15 (mI M4 (t + 2) (ix (((mI M4 t 34) + 98) + (2 * v3))))
    else
    gd (inb v3 400) <|
    j15 (mI M4 (t + 11) (ix v3))) fuel 0 p1 M1
def FX12_isSo (t : Nat) (p1 : Int32) (M : Mem) : Option (Int32 × Mem) :=
  gd (inb (p1 + 5) 5594) <|
  gd (inb (p1 + 6) 5594) <|
  jn1 (fun (M5 : Mem) =>
    gd (inb p1 5594) <|
    if (mI M5 (t + 2) (ix p1)) = 6 then
      some (1, M5)
    else
    gd (inb (p1 + 3) 5594) <|
    gd (inb (p1 + 4) 5594) <|
    (FX12_reckonAll t (mI M5 (t + 2) (ix (p1 + 3))) (mI M5 (t + 2) (ix (p1 + 4))) M5).bind fun M14 =>
    nm (sJ M14 t 40 (mJ M14 t 39)) fun M15 =>
    jn1 (fun (v16 : Int32) =>
      gd (isB v16) <|
      some (v16, M15)) fun j17 =>
    if ¬ (mI M15 t 38) = 0 then
      j17 0
    else
    j17 1) fun j6 =>
  if (mI M (t + 2) (ix (p1 + 6))) ≤ (mI M (t + 2) (ix (p1 + 5))) then
    j6 M
  else
  gd (inb (p1 + 5) 5594) <|
  gd (inb (p1 + 6) 5594) <|
  (FX12_reckonAll t (mI M (t + 2) (ix (p1 + 5))) (mI M (t + 2) (ix (p1 + 6))) M).bind fun M24 =>
  jn0 (
    some (0, M24)) fun j25 =>
  if ¬ (mI M24 t 38) = 0 then
    j25
  else
  if ¬ (mJ M24 t 39) = 0 then
    j6 M24
  else
  j25
def FX12_tells (t : Nat) (p1 : Int32) (p2 : Int32) (p3 : Int32) (p4 : Int32) (p5 : Int32) (p6 : Int64) (M : Mem) : Option (Int64 × Mem) :=
  if ¬ (mI M (t + 2) 2) = (-1) then
    nm (sI M t 34 (194 + (900 * (mI M (t + 2) 2)))) fun M3 =>
    nm (sJ M3 (t + 18) 1 (p2.toInt64)) fun M5 =>
    nm (sJ M5 (t + 18) 2 (p3.toInt64)) fun M7 =>
    nm (sJ M7 (t + 18) 3 (p4.toInt64)) fun M9 =>
    nm (sJ M9 (t + 18) 4 (p5.toInt64)) fun M11 =>
    nm (sJ M11 (t + 18) 5 ((mI M11 (t + 2) 8).toInt64)) fun M14 =>
    nm (sJ M14 (t + 18) 6 ((mI M14 (t + 2) 6).toInt64)) fun M17 =>
    wl3 (fun (v18 : Int64) (v19 : Int32) (M20 : Mem) rec21 =>
      gd (inb ((mI M20 t 34) + 1) 5594) <|
      if (mI M20 (t + 2) (ix ((mI M20 t 34) + 1))) ≤ v19 then
        some (v18, M20)
      else
      nm (((mI M20 t 34) + 2) + (8 * v19)) fun v25 =>
      gd (inb v25 5594) <|
      jn2 (fun (v28 : Int64) (M29 : Mem) =>
        nm (v19 + 1) fun v32 =>
        rec21 v28 v32 M29) fun j30 =>
      if ¬ (mI M20 (t + 2) (ix v25)) = p1 then
        j30 v18 M20
      else
      bdM (FX12_isSo t v25 M20) fun r34 M33 =>
      if r34 = 0 then
        j30 v18 M33
      else
      jn1 (fun (v35 : Int64) =>
        j30 v35 M33) fun j36 =>
      if ¬ p1 = 6 then
        j36 (mJ M33 t 40)
      else
      j36 1) fuel p6 0 M17
  else
  some (p6, M)
def FX12_bounded (p0 : Int64) (p2 : Int32) (p3 : Int32) : Option (Int32) :=
  jn1 (fun (v1 : Int32) =>
    some v1) fun j2 =>
  if (p2.toInt64) ≤ p0 then
    if p0 ≤ (p3.toInt64) then
      j2 (p0.toInt32)
    else
    j2 p3
  else
  j2 p2
def FX12_valueOf (t : Nat) (p1 : Int32) (M : Mem) : Option (Int32 × Mem) :=
  (FX12_rankOf p1).bind fun r1 =>
  jn1 (fun (v2 : Int32) =>
    (FX12_rankOf p1).bind fun r5 =>
    bdM (FX12_tells t 0 r5 (irm p1 4) (-1) (-1) (v2.toInt64) M) fun r7 M6 =>
    (FX12_bounded r7 1 31).bind fun r8 =>
    some (r8, M6)) fun j3 =>
  if 10 ≤ r1 then
    j3 10
  else
  (FX12_rankOf p1).bind fun r9 =>
  j3 (r9 + 1)
def FX12_isBarred (t : Nat) (p1 : Int32) (M : Mem) : Option (Int32 × Mem) :=
  (FX12_rankOf p1).bind fun r1 =>
  bdM (FX12_tells t 6 r1 (irm p1 4) (-1) (-1) 0 M) fun r3 M2 =>
  jn1 (fun (v4 : Int32) =>
    gd (isB v4) <|
    some (v4, M2)) fun j5 =>
  if ¬ r3 = 1 then
    j5 0
  else
  j5 1
def FX12_card (t : Nat) (p1 : Int32) (p2 : Int32) (M : Mem) : Option (Int32 × Mem) :=
  nm (sI M t 0 0) fun M1 =>
  (FX12_isCard p1).bind fun r2 =>
  if ¬ r2 = 0 then
    sw p2.toInt 0 [
      bdM (FX12_valueOf t p1 M1) fun r4 M3 =>
      some (r4, M3),
      bdM (FX12_isBarred t p1 M1) fun r6 M5 =>
      jn1 (fun (v7 : Int32) =>
        some (v7, M5)) fun j8 =>
      if r6 = 0 then
        j8 0
      else
      j8 1,
      gd (inb (18 + p1) 5594) <|
      some ((mI M1 (t + 2) (ix (18 + p1))), M1),
      gd (inb (70 + p1) 5594) <|
      some ((mI M1 (t + 2) (ix (70 + p1))), M1),
      gd (inb (130 + p1) 5594) <|
      some ((mI M1 (t + 2) (ix (130 + p1))), M1)]
    (some ((-1), M1))
  else
  some ((-1), M1)
def FX12_isPlayer (p0 : Int32) : Option (Int32) :=
  (FX12_in (p0.toInt64) 0 1).bind fun r1 =>
  gd (isB r1) <|
  some r1
def FX12_cardsAt (t : Nat) (p1 : Int32) (M : Mem) : Option (Int32) :=
  wl2 (fun (v1 : Int32) (v2 : Int32) rec3 =>
    if 52 ≤ v2 then
      some v1
    else
    gd (inb (18 + v2) 5594) <|
    jn1 (fun (v7 : Int32) =>
      nm (v1 + v7) fun v10 =>
      nm (v2 + 1) fun v11 =>
      rec3 v10 v11) fun j8 =>
    if ¬ (mI M (t + 2) (ix (18 + v2))) = p1 then
      j8 0
    else
    j8 1) fuel 0 0
def FX12_unplayed (t : Nat) (p1 : Int32) (M : Mem) : Option (Int32) :=
  wl2 (fun (v1 : Int32) (v2 : Int32) rec3 =>
    if 52 ≤ v2 then
      some v1
    else
    gd (inb (18 + v2) 5594) <|
    jn1 (fun (v7 : Int32) =>
      nm (v1 + v7) fun v10 =>
      nm (v2 + 1) fun v11 =>
      rec3 v10 v11) fun j8 =>
    jn0 (
      j8 0) fun j12 =>
    if ¬ (mI M (t + 2) (ix (18 + v2))) = p1 then
      j12
    else
    gd (inb (70 + v2) 5594) <|
    if ¬ (mI M (t + 2) (ix (70 + v2))) = 0 then
      j12
    else
    j8 1) fuel 0 0
def FX12_hand (t : Nat) (p1 : Int32) (p2 : Int32) (M : Mem) : Option (Int32 × Mem) :=
  nm (sI M t 0 0) fun M1 =>
  (FX12_isPlayer p1).bind fun r2 =>
  jn0 (
    some ((-1), M1)) fun j3 =>
  if r2 = 0 then
    j3
  else
  (FX12_in (p2.toInt64) 0 8).bind fun r5 =>
  if ¬ r5 = 0 then
    lsw p2.toInt [
      (0, (FX12_cardsAt t p1 M1).bind fun r7 =>
      some (r7, M1)),
      (7, gd (inb (16 + p1) 5594) <|
      some ((mI M1 (t + 2) (ix (16 + p1))), M1)),
      (8, (FX12_unplayed t p1 M1).bind fun r10 =>
      some (r10, M1))]
    ((FX12_cardOf t p1 (p2 - 1) M1).bind fun r6 =>
      some (r6, M1))
  else
  j3
def FX12_change (t : Nat) (p1 : Int32) (p2 : Int32) (M : Mem) : Option (Int32 × Mem) :=
  gd (inb p1 5594) <|
  nm (mI M (t + 2) (ix p1)) fun v3 =>
  gd (inb p1 5594) <|
  nm (sI M (t + 2) (ix p1) p2) fun M5 =>
  nm (sI M5 t 1 0) fun M7 =>
  some (v3, M7)
def FX12_terms (t : Nat) (p1 : Int32) (p2 : Int32) (M : Mem) : Option (Int32 × Mem) :=
  nm (sI M t 0 0) fun M1 =>
  jn1 (fun (v2 : Int32) =>
    if ¬ v2 = 0 then
      nm (sI M1 t 8 0) fun M5 =>
      jn1 (fun (v6 : Int32) =>
        bdM (FX12_change t v6 p2 M5) fun r10 M9 =>
        some (r10, M9)) fun j7 =>
      if ¬ p1 = 0 then
        j7 (4 + p1)
      else
      j7 8
    else
    bdM (FX12_tell t (-1) M1) fun r12 M11 =>
    some (r12, M11)) fun j3 =>
  if ¬ p1 = 0 then
    if ¬ p1 = 1 then
      if ¬ p1 = 2 then
        jn0 (
          j3 0) fun j13 =>
        if ¬ p1 = 3 then
          j13
        else
        (FX12_in (p2.toInt64) 5 31).bind fun r15 =>
        if r15 = 0 then
          j13
        else
        j3 1
      else
      (FX12_in (p2.toInt64) 0 9).bind fun r16 =>
      j3 r16
    else
    (FX12_in (p2.toInt64) 0 10).bind fun r17 =>
    j3 r17
  else
  (FX12_in (p2.toInt64) 0 999).bind fun r18 =>
  j3 r18
def FX12_isHeld (t : Nat) (p1 : Int32) (M : Mem) : Option (Int32) :=
  gd (inb (130 + p1) 5594) <|
  jn1 (fun (v3 : Int32) =>
    gd (isB v3) <|
    some v3) fun j4 =>
  if ¬ (mI M (t + 2) (ix (130 + p1))) = 1 then
    j4 0
  else
  j4 1
def FX12_row (t : Nat) (M : Mem) : Option (Int32 × Mem) :=
  nm (sI M t 0 0) fun M1 =>
  nm (mI M1 t 13) fun v2 =>
  nm (sI M1 t 13 0) fun M3 =>
  if ¬ v2 = 0 then
    nm (sI M3 t 11 0) fun M4 =>
    wl2 (fun (v5 : Int32) (M6 : Mem) rec7 =>
      if 52 ≤ v5 then
        wl3 (fun (v9 : Int32) (v10 : Int32) (M11 : Mem) rec12 =>
          if v2 ≤ v10 then
            bdM (FX12_tell t v9 M11) fun r15 M14 =>
            some (r15, M14)
          else
          gd (inb v10 400) <|
          jn2 (fun (v18 : Int32) (M19 : Mem) =>
            nm (v10 + 1) fun v22 =>
            rec12 v18 v22 M19) fun j20 =>
          jn0 (
            nm (sI M11 t 11 ((mI M11 t 11) + 1)) fun M25 =>
            j20 v9 M25) fun j23 =>
          if 52 ≤ (mI M11 (t + 9) (ix v10)) then
            j23
          else
          if 6 ≤ v9 then
            j23
          else
          gd (inb v10 400) <|
          (FX12_isHeld t (mI M11 (t + 9) (ix v10)) M11).bind fun r28 =>
          if ¬ r28 = 0 then
            j23
          else
          gd (inb v10 400) <|
          gd (inb (130 + (mI M11 (t + 9) (ix v10))) 5594) <|
          nm (sI M11 (t + 2) (ix (130 + (mI M11 (t + 9) (ix v10)))) 1) fun M32 =>
          nm (v9 + 1) fun v34 =>
          j20 v34 M32) fuel 0 0 M6
      else
      gd (inb (130 + v5) 5594) <|
      nm (sI M6 (t + 2) (ix (130 + v5)) 0) fun M36 =>
      nm (v5 + 1) fun v38 =>
      rec7 v38 M36) fuel 0 M4
  else
  bdM (FX12_tell t (-6) M3) fun r40 M39 =>
  some (r40, M39)
def FX12_jokers (t : Nat) (M : Mem) : Option (Int32 × Mem) :=
  nm (sI M t 0 0) fun M1 =>
  some ((mI M1 t 11), M1)
def FX12_four (t : Nat) (p1 : Int32) (M : Mem) : Option (Mem) :=
  wl2 (fun (v1 : Int32) (M2 : Mem) rec3 =>
    if v1 < 0 then
      some M2
    else
    gd (inb (mI M2 t 13) 400) <|
    nm (sI M2 (t + 9) (ix (mI M2 t 13)) ((p1 >>> (v1 &&& 31)) &&& 255)) fun M6 =>
    nm (sI M6 t 13 ((mI M6 t 13) + 1)) fun M8 =>
    nm (v1 + (-8)) fun v9 =>
    rec3 v9 M8) fuel 24 M
def FX12_feed (t : Nat) (p1 : Int32) (p2 : Int32) (p3 : Int32) (p4 : Int32) (p5 : Int32) (M : Mem) : Option (Int32 × Mem) :=
  nm (sI M t 0 0) fun M1 =>
  if ((mI M1 t 13) + 20) ≤ 400 then
    (FX12_four t p1 M1).bind fun M2 =>
    (FX12_four t p2 M2).bind fun M3 =>
    (FX12_four t p3 M3).bind fun M4 =>
    (FX12_four t p4 M4).bind fun M5 =>
    (FX12_four t p5 M5).bind fun M6 =>
    some ((mI M6 t 13), M6)
  else
  some ((-1), M1)
def FX12_end (t : Nat) (p1 : Int32) (M : Mem) : Option (Int32 × Mem) :=
  nm (sI M t 0 0) fun M1 =>
  jn0 (
    some ((-1), M1)) fun j2 =>
  if p1 < 0 then
    j2
  else
  if p1 ≤ (mI M1 t 13) then
    nm (sI M1 t 13 p1) fun M4 =>
    some (p1, M4)
  else
  j2
def FX12_fault (t : Nat) (M : Mem) : Option (Int32 × Mem) :=
  nm (sI M t 0 0) fun M1 =>
  some ((mI M1 t 18), M1)
def FX12_isSmall (p0 : Int32) : Option (Int32) :=
  jn1 (fun (v1 : Int32) =>
    gd (isB v1) <|
    some v1) fun j2 =>
  jn0 (
    j2 0) fun j5 =>
  if p0 < 97 then
    j5
  else
  if 122 < p0 then
    j5
  else
  j2 1
def FX12_isDigit (p0 : Int32) : Option (Int32) :=
  jn1 (fun (v1 : Int32) =>
    gd (isB v1) <|
    some v1) fun j2 =>
  jn0 (
    j2 0) fun j5 =>
  if p0 < 48 then
    j5
  else
  if 57 < p0 then
    j5
  else
  j2 1
def FX12_next (t : Nat) (M : Mem) : Option (Mem) :=
  nm (sI M t 14 (mI M t 15)) fun M1 =>
  wl1 (fun (M2 : Mem) rec3 =>
    jn0 (
      nm (sI M2 t 15 (mI M2 t 14)) fun M7 =>
      nm (sJ M7 t 17 0) fun M8 =>
      jn1 (fun (v9 : Int32) =>
        nm (sI M8 t 16 v9) fun M12 =>
        jn1 (fun (M13 : Mem) =>
          wl1 (fun (M16 : Mem) rec17 =>
            jn0 (
              wl1 (fun (M21 : Mem) rec22 =>
                jn0 (
                  some M21) fun j24 =>
                if ¬ (mI M21 t 16) = 2 then
                  j24
                else
                if (mI M21 t 13) ≤ (mI M21 t 15) then
                  j24
                else
                gd (inb (mI M21 t 15) 400) <|
                (FX12_isDigit (mI M21 (t + 9) (ix (mI M21 t 15)))).bind fun r28 =>
                if r28 = 0 then
                  j24
                else
                jn1 (fun (v29 : Int64) =>
                  nm (sJ M21 t 17 v29) fun M32 =>
                  nm (sI M32 t 15 ((mI M32 t 15) + 1)) fun M33 =>
                  rec22 M33) fun j30 =>
                if (mJ M21 t 17) ≤ 1000000 then
                  gd (inb (mI M21 t 15) 400) <|
                  j30 ((((mJ M21 t 17) * 10) + ((mI M21 (t + 9) (ix (mI M21 t 15))).toInt64)) - 48)
                else
                j30 (mJ M21 t 17)) fuel M16) fun j19 =>
            if ¬ (mI M16 t 16) = 1 then
              j19
            else
            if (mI M16 t 13) ≤ (mI M16 t 15) then
              j19
            else
            gd (inb (mI M16 t 15) 400) <|
            (FX12_isSmall (mI M16 (t + 9) (ix (mI M16 t 15)))).bind fun r38 =>
            if r38 = 0 then
              j19
            else
            jn1 (fun (v39 : Int64) =>
              nm (sJ M16 t 17 v39) fun M42 =>
              nm (sI M42 t 15 ((mI M42 t 15) + 1)) fun M43 =>
              rec17 M43) fun j40 =>
            if 10 ≤ ((mI M16 t 15) - (mI M16 t 14)) then
              j40 (-1)
            else
            gd (inb (mI M16 t 15) 400) <|
            j40 ((((mJ M16 t 17) * 32) + ((mI M16 (t + 9) (ix (mI M16 t 15))).toInt64)) - 96)) fuel M13) fun j14 =>
        if ¬ (mI M12 t 16) = 3 then
          j14 M12
        else
        gd (inb (mI M12 t 14) 400) <|
        nm (sJ M12 t 17 ((mI M12 (t + 9) (ix (mI M12 t 14))).toInt64)) fun M48 =>
        nm (sI M48 t 15 ((mI M48 t 15) + 1)) fun M49 =>
        j14 M49) fun j10 =>
      if ¬ (mI M8 t 14) = (mI M8 t 13) then
        gd (inb (mI M8 t 14) 400) <|
        (FX12_isSmall (mI M8 (t + 9) (ix (mI M8 t 14)))).bind fun r52 =>
        if r52 = 0 then
          gd (inb (mI M8 t 14) 400) <|
          (FX12_isDigit (mI M8 (t + 9) (ix (mI M8 t 14)))).bind fun r55 =>
          if r55 = 0 then
            j10 3
          else
          j10 2
        else
        j10 1
      else
      j10 0) fun j5 =>
    if (mI M2 t 13) ≤ (mI M2 t 14) then
      j5
    else
    gd (inb (mI M2 t 14) 400) <|
    if ¬ (mI M2 (t + 9) (ix (mI M2 t 14))) = 32 then
      j5
    else
    nm (sI M2 t 14 ((mI M2 t 14) + 1)) fun M58 =>
    rec3 M58) fuel M1
def FX12_begin (t : Nat) (M : Mem) : Option (Mem) :=
  nm (sI M t 15 0) fun M1 =>
  nm (sI M1 t 19 0) fun M2 =>
  nm (sI M2 t 18 (-1)) fun M3 =>
  (FX12_next t M3).bind fun M4 =>
  some M4
def FX12_beginText (t : Nat) (p1 : Int32) (M : Mem) : Option (Mem) :=
  gd (isB p1) <|
  nm (sI M t 20 p1) fun M1 =>
  (FX12_begin t M1).bind fun M3 =>
  nm (sI M3 t 21 0) fun M4 =>
  nm (sI M4 t 23 0) fun M5 =>
  nm (sI M5 t 26 0) fun M6 =>
  some M6
def FX12_isWord (t : Nat) (p1 : Int64) (M : Mem) : Option (Int32) :=
  jn1 (fun (v1 : Int32) =>
    gd (isB v1) <|
    some v1) fun j2 =>
  jn0 (
    j2 0) fun j5 =>
  if ¬ (mI M t 16) = 1 then
    j5
  else
  if ¬ (mJ M t 17) = p1 then
    j5
  else
  j2 1
def FX12_must (t : Nat) (p1 : Int32) (M : Mem) : Option (Mem) :=
  jn1 (fun (M1 : Mem) =>
    jn1 (fun (M4 : Mem) =>
      some M4) fun j5 =>
    if ¬ (mI M1 t 19) = 0 then
      j5 M1
    else
    (FX12_next t M1).bind fun M7 =>
    j5 M7) fun j2 =>
  if ¬ (mI M t 19) = 0 then
    j2 M
  else
  if ¬ p1 = 0 then
    j2 M
  else
  nm (sI M t 19 1) fun M8 =>
  nm (sI M8 t 18 (mI M8 t 14)) fun M9 =>
  j2 M9
def FX12_push (t : Nat) (p1 : Int32) (p2 : Int32) (M : Mem) : Option (Mem) :=
  gd (inb (mI M t 29) 400) <|
  nm (sI M (t + 13) (ix (mI M t 29)) p1) fun M2 =>
  gd (inb (mI M2 t 29) 400) <|
  nm (sI M2 (t + 14) (ix (mI M2 t 29)) p2) fun M5 =>
  nm (sI M5 t 29 ((mI M5 t 29) + 1)) fun M7 =>
  some M7
def FX12_isSign (t : Nat) (p1 : Int32) (M : Mem) : Option (Int32) :=
  jn1 (fun (v1 : Int32) =>
    gd (isB v1) <|
    some v1) fun j2 =>
  jn0 (
    j2 0) fun j5 =>
  if ¬ (mI M t 16) = 3 then
    j5
  else
  if ¬ (mJ M t 17) = (p1.toInt64) then
    j5
  else
  j2 1
def FX12_openBracket (t : Nat) (p1 : Int32) (M : Mem) : Option (Mem) :=
  jn1 (fun (v1 : Int32) =>
    (FX12_must t v1 M).bind fun M4 =>
    jn1 (fun (M5 : Mem) =>
      some M5) fun j6 =>
    if ¬ (mI M4 t 19) = 0 then
      j6 M4
    else
    nm (sI M4 t 30 ((mI M4 t 30) + 1)) fun M8 =>
    (FX12_push t p1 0 M8).bind fun M9 =>
    j6 M9) fun j2 =>
  if 8 ≤ (mI M t 30) then
    j2 0
  else
  j2 1
def FX12_orderPartAt (t : Nat) (M : Mem) : Option (Int32) :=
  wl2 (fun (v1 : Int32) (v2 : Int32) rec3 =>
    if 7 ≤ v2 then
      some v1
    else
    gd (inb v2 7) <|
    (FX12_isWord t (mJ M (t + 16) (ix v2)) M).bind fun r7 =>
    jn1 (fun (v8 : Int32) =>
      nm (v2 + 1) fun v11 =>
      rec3 v8 v11) fun j9 =>
    if r7 = 0 then
      j9 v1
    else
    j9 (v2 + 1)) fuel (-1) 0
def FX12_partAt (t : Nat) (M : Mem) : Option (Int32) :=
  wl2 (fun (v1 : Int32) (v2 : Int32) rec3 =>
    if 6 ≤ v2 then
      some v1
    else
    gd (inb v2 6) <|
    (FX12_isWord t (mJ M (t + 15) (ix v2)) M).bind fun r7 =>
    jn1 (fun (v8 : Int32) =>
      nm (v2 + 1) fun v11 =>
      rec3 v8 v11) fun j9 =>
    if r7 = 0 then
      j9 v1
    else
    j9 (v2 + 1)) fuel (-1) 0
def FX12_emit (t : Nat) (p1 : Int32) (p2 : Int32) (M : Mem) : Option (Mem) :=
  gd (inb (mI M t 23) 400) <|
  nm (sI M (t + 11) (ix (mI M t 23)) p1) fun M2 =>
  gd (inb (mI M2 t 23) 400) <|
  nm (sI M2 (t + 12) (ix (mI M2 t 23)) p2) fun M5 =>
  nm (sI M5 t 23 ((mI M5 t 23) + 1)) fun M7 =>
  some M7
def FX12_leaf (t : Nat) (p1 : Int32) (p2 : Int32) (p3 : Int32) (M : Mem) : Option (Mem) :=
  jn1 (fun (v1 : Int32) =>
    (FX12_must t v1 M).bind fun M4 =>
    jn1 (fun (M5 : Mem) =>
      some M5) fun j6 =>
    if ¬ (mI M4 t 19) = 0 then
      j6 M4
    else
    (FX12_emit t p2 p3 M4).bind fun M8 =>
    nm (sI M8 t 26 ((mI M8 t 26) + 1)) fun M9 =>
    j6 M9) fun j2 =>
  jn0 (
    j2 0) fun j10 =>
  if p1 = 0 then
    j10
  else
  if 50 ≤ (mI M t 26) then
    j10
  else
  j2 1
def FX12_number (t : Nat) (p1 : Int64) (p3 : Int64) (M : Mem) : Option (Int32 × Mem) :=
  nm ((mJ M t 17).toInt32) fun v1 =>
  jn1 (fun (v2 : Int32) =>
    (FX12_must t v2 M).bind fun M5 =>
    some (v1, M5)) fun j3 =>
  jn0 (
    j3 0) fun j6 =>
  if ¬ (mI M t 16) = 2 then
    j6
  else
  (FX12_in (mJ M t 17) p1 p3).bind fun r8 =>
  if r8 = 0 then
    j6
  else
  j3 1
def FX12_readPart (t : Nat) (M : Mem) : Option (Int32 × Mem) :=
  (FX12_isSign t 91 M).bind fun r1 =>
  if r1 = 0 then
    jn1 (fun (v2 : Int32) =>
      jn1 (fun (v5 : Int32) =>
        jn1 (fun (v8 : Int32) =>
          jn1 (fun (v11 : Int32) =>
            jn1 (fun (v14 : Int32) =>
              (FX12_leaf t v8 v11 v14 M).bind fun M17 =>
              jn1 (fun (M18 : Mem) =>
                some (3, M18)) fun j19 =>
              if (mI M17 t 20) = 0 then
                j19 M17
              else
              if v2 < 6 then
                j19 M17
              else
              if ¬ (mI M17 t 19) = 0 then
                j19 M17
              else
              nm ((mI M17 t 23) - 1) fun v21 =>
              jn1 (fun (v23 : Int64) =>
                bdM (FX12_number t 0 v23 M17) fun r27 M26 =>
                gd (inb v21 400) <|
                nm (sI M26 (t + 12) (ix v21) r27) fun M28 =>
                j19 M28) fun j24 =>
              if ¬ v2 = 6 then
                j24 11
              else
              j24 1) fun j15 =>
            if v5 = 0 then
              j15 0
            else
            j15 ((mJ M t 17).toInt32)) fun j12 =>
          if ¬ v2 = (-1) then
            j12 v2
          else
          j12 0) fun j9 =>
        jn0 (
          j9 1) fun j30 =>
        if ¬ v2 = (-1) then
          j30
        else
        if v5 = 0 then
          j9 0
        else
        j30) fun j6 =>
      jn0 (
        j6 0) fun j32 =>
      if ¬ (mI M t 16) = 2 then
        j32
      else
      if 1000 < (mJ M t 17) then
        j32
      else
      j6 1) fun j3 =>
    if (mI M t 20) = 0 then
      (FX12_partAt t M).bind fun r34 =>
      j3 r34
    else
    (FX12_orderPartAt t M).bind fun r35 =>
    j3 r35
  else
  (FX12_openBracket t 32 M).bind fun M36 =>
  some (1, M36)
def FX12_readPlain (t : Nat) (M : Mem) : Option (Int32 × Mem) :=
  (FX12_isWord t 14836 M).bind fun r1 =>
  if r1 = 0 then
    (FX12_isSign t 40 M).bind fun r2 =>
    if r2 = 0 then
      bdM (FX12_readPart t M) fun r4 M3 =>
      some (r4, M3)
    else
    (FX12_openBracket t 31 M).bind fun M5 =>
    some (0, M5)
  else
  (FX12_push t 28 0 M).bind fun M6 =>
  (FX12_next t M6).bind fun M7 =>
  some (0, M7)
def FX12_binds (p0 : Int32) : Option (Int32) :=
  jn1 (fun (v1 : Int32) =>
    some v1) fun j2 =>
  if p0 < 31 then
    if ¬ p0 = 30 then
      if ¬ p0 = 29 then
        if ¬ p0 = 28 then
          if p0 < 25 then
            if p0 < 22 then
              j2 5
            else
            j2 6
          else
          j2 4
        else
        j2 3
      else
      j2 2
    else
    j2 1
  else
  j2 0
def FX12_settle (t : Nat) (p1 : Int32) (M : Mem) : Option (Mem) :=
  wl1 (fun (M1 : Mem) rec2 =>
    jn0 (
      some M1) fun j4 =>
    if (mI M1 t 29) ≤ 0 then
      j4
    else
    gd (inb ((mI M1 t 29) - 1) 400) <|
    (FX12_binds (mI M1 (t + 13) (ix ((mI M1 t 29) - 1)))).bind fun r8 =>
    if r8 < p1 then
      j4
    else
    nm (sI M1 t 29 ((mI M1 t 29) - 1)) fun M9 =>
    gd (inb (mI M9 t 29) 400) <|
    jn0 (
      gd (inb (mI M9 t 29) 400) <|
      gd (inb (mI M9 (t + 14) (ix (mI M9 t 29))) 400) <|
      nm (sI M9 (t + 12) (ix (mI M9 (t + 14) (ix (mI M9 t 29)))) (mI M9 t 23)) fun M17 =>
      rec2 M17) fun j12 =>
    if (mI M9 (t + 13) (ix (mI M9 t 29))) = 29 then
      j12
    else
    gd (inb (mI M9 t 29) 400) <|
    if ¬ (mI M9 (t + 13) (ix (mI M9 t 29))) = 30 then
      gd (inb (mI M9 t 29) 400) <|
      (FX12_emit t (mI M9 (t + 13) (ix (mI M9 t 29))) 0 M9).bind fun M23 =>
      rec2 M23
    else
    j12) fuel M
def FX12_inner (t : Nat) (M : Mem) : Option (Int32) :=
  wl2 (fun (v1 : Int32) (v2 : Int32) rec3 =>
    if (mI M t 29) ≤ v2 then
      some v1
    else
    gd (inb v2 400) <|
    jn1 (fun (v7 : Int32) =>
      nm (v2 + 1) fun v10 =>
      rec3 v7 v10) fun j8 =>
    if (mI M (t + 13) (ix v2)) < 31 then
      j8 v1
    else
    gd (inb v2 400) <|
    j8 (mI M (t + 13) (ix v2))) fuel (-1) 0
def FX12_isCompared (t : Nat) (M : Mem) : Option (Int32) :=
  nm ((mI M t 29) - 1) fun v1 =>
  wl1 (fun (v2 : Int32) rec3 =>
    jn0 (
      jn1 (fun (v7 : Int32) =>
        gd (isB v7) <|
        some v7) fun j8 =>
      jn0 (
        j8 0) fun j11 =>
      if v2 < 0 then
        j11
      else
      gd (inb v2 400) <|
      (FX12_in ((mI M (t + 13) (ix v2)).toInt64) 25 27).bind fun r15 =>
      if r15 = 0 then
        j11
      else
      j8 1) fun j5 =>
    if v2 < 0 then
      j5
    else
    gd (inb v2 400) <|
    (FX12_in ((mI M (t + 13) (ix v2)).toInt64) 20 24).bind fun r18 =>
    if r18 = 0 then
      j5
    else
    nm (v2 + (-1)) fun v19 =>
    rec3 v19) fuel v1
def FX12_behindSum (t : Nat) (p1 : Int32) (M : Mem) : Option (Int32 × Mem) :=
  (FX12_isSign t 43 M).bind fun r1 =>
  jn1 (fun (v2 : Int32) =>
    if v2 = (-1) then
      (FX12_inner t M).bind fun r5 =>
      if ¬ r5 = 32 then
        jn0 (
          (FX12_isCompared t M).bind fun r8 =>
          if r8 = 0 then
            (FX12_isSign t 60 M).bind fun r9 =>
            jn1 (fun (v10 : Int32) =>
              jn1 (fun (v13 : Int32) =>
                (FX12_must t v13 M).bind fun M16 =>
                jn1 (fun (M17 : Mem) =>
                  some (1, M17)) fun j18 =>
                if ¬ (mI M16 t 19) = 0 then
                  j18 M16
                else
                (FX12_settle t 5 M16).bind fun M20 =>
                (FX12_push t v10 0 M20).bind fun M21 =>
                j18 M21) fun j14 =>
              jn0 (
                j14 1) fun j22 =>
              if ¬ v10 = 27 then
                j22
              else
              (FX12_isSign t 61 M).bind fun r24 =>
              if r24 = 0 then
                j14 0
              else
              j22) fun j11 =>
            if r9 = 0 then
              (FX12_isSign t 62 M).bind fun r25 =>
              if r25 = 0 then
                j11 27
              else
              j11 26
            else
            j11 25
          else
          some (2, M)) fun j6 =>
        if ¬ r5 = (-1) then
          j6
        else
        if ¬ p1 = 0 then
          j6
        else
        some (4, M)
      else
      (FX12_isSign t 93 M).bind fun r26 =>
      (FX12_must t r26 M).bind fun M27 =>
      jn1 (fun (M28 : Mem) =>
        some (3, M28)) fun j29 =>
      if ¬ (mI M27 t 19) = 0 then
        j29 M27
      else
      (FX12_settle t 5 M27).bind fun M31 =>
      nm (sI M31 t 29 ((mI M31 t 29) - 1)) fun M32 =>
      nm (sI M32 t 30 ((mI M32 t 30) - 1)) fun M33 =>
      j29 M33
    else
    (FX12_binds v2).bind fun r34 =>
    (FX12_settle t r34 M).bind fun M35 =>
    (FX12_push t v2 0 M35).bind fun M36 =>
    (FX12_next t M36).bind fun M37 =>
    some (1, M37)) fun j3 =>
  if r1 = 0 then
    (FX12_isSign t 45 M).bind fun r38 =>
    if r38 = 0 then
      (FX12_isSign t 42 M).bind fun r39 =>
      if r39 = 0 then
        (FX12_isSign t 47 M).bind fun r40 =>
        if r40 = 0 then
          (FX12_isSign t 37 M).bind fun r41 =>
          if r41 = 0 then
            j3 (-1)
          else
          j3 24
        else
        j3 23
      else
      j3 22
    else
    j3 21
  else
  j3 20
def FX12_behindTest (t : Nat) (M : Mem) : Option (Int32 × Mem) :=
  (FX12_isWord t 1476 M).bind fun r1 =>
  jn0 (
    jn1 (fun (v4 : Int32) =>
      (FX12_settle t v4 M).bind fun M7 =>
      jn1 (fun (v8 : Int32) =>
        (FX12_push t v8 (mI M7 t 23) M7).bind fun M11 =>
        jn1 (fun (v12 : Int32) =>
          (FX12_emit t v12 0 M11).bind fun M15 =>
          (FX12_next t M15).bind fun M16 =>
          some (0, M16)) fun j13 =>
        if r1 = 0 then
          j13 30
        else
        j13 29) fun j9 =>
      if r1 = 0 then
        j9 30
      else
      j9 29) fun j5 =>
    if r1 = 0 then
      j5 1
    else
    j5 2) fun j2 =>
  if ¬ r1 = 0 then
    j2
  else
  (FX12_isWord t 498 M).bind fun r17 =>
  if r17 = 0 then
    (FX12_inner t M).bind fun r18 =>
    if ¬ r18 = (-1) then
      (FX12_isSign t 41 M).bind fun r19 =>
      (FX12_must t r19 M).bind fun M20 =>
      jn1 (fun (M21 : Mem) =>
        some (2, M21)) fun j22 =>
      if ¬ (mI M20 t 19) = 0 then
        j22 M20
      else
      (FX12_settle t 1 M20).bind fun M24 =>
      nm (sI M24 t 29 ((mI M24 t 29) - 1)) fun M25 =>
      nm (sI M25 t 30 ((mI M25 t 30) - 1)) fun M26 =>
      j22 M26
    else
    some (4, M)
  else
  j2
def FX12_readExpression (t : Nat) (p1 : Int32) (M : Mem) : Option (Mem) :=
  nm (sI M t 29 0) fun M1 =>
  nm (sI M1 t 30 0) fun M2 =>
  jn1 (fun (v3 : Int32) =>
    wl2 (fun (v6 : Int32) (M7 : Mem) rec8 =>
      jn0 (
        (FX12_settle t 1 M7).bind fun M12 =>
        some M12) fun j10 =>
      if ¬ (mI M7 t 19) = 0 then
        j10
      else
      if v6 = 4 then
        j10
      else
      jn2 (fun (v13 : Int32) (M14 : Mem) =>
        rec8 v13 M14) fun j15 =>
      if ¬ v6 = 0 then
        if ¬ v6 = 1 then
          if ¬ v6 = 3 then
            bdM (FX12_behindTest t M7) fun r18 M17 =>
            j15 r18 M17
          else
          bdM (FX12_behindSum t p1 M7) fun r20 M19 =>
          j15 r20 M19
        else
        bdM (FX12_readPart t M7) fun r22 M21 =>
        j15 r22 M21
      else
      bdM (FX12_readPlain t M7) fun r24 M23 =>
      j15 r24 M23) fuel v3 M2) fun j4 =>
  if p1 = 0 then
    j4 1
  else
  j4 0
def FX12_readLaw (t : Nat) (M : Mem) : Option (Mem) :=
  wl2 (fun (v1 : Int32) (v2 : Int32) rec3 =>
    if 7 ≤ v2 then
      jn1 (fun (v5 : Int32) =>
        (FX12_must t v5 M).bind fun M8 =>
        if (mI M8 t 19) = 0 then
          nm (8 * (mI M8 t 21)) fun v9 =>
          wl2 (fun (v10 : Int32) (M11 : Mem) rec12 =>
            if 8 ≤ v10 then
              gd (inb v9 96) <|
              nm (sI M11 (t + 10) (ix v9) v1) fun M15 =>
              nm (sI M15 t 21 ((mI M15 t 21) + 1)) fun M17 =>
              gd (inb (v9 + 3) 96) <|
              nm (sI M17 (t + 10) (ix (v9 + 3)) (mI M17 t 23)) fun M19 =>
              jn1 (fun (M21 : Mem) =>
                gd (inb (v9 + 4) 96) <|
                nm (sI M21 (t + 10) (ix (v9 + 4)) (mI M21 t 23)) fun M25 =>
                gd (inb (v9 + 5) 96) <|
                nm (sI M25 (t + 10) (ix (v9 + 5)) (mI M25 t 23)) fun M28 =>
                jn1 (fun (M30 : Mem) =>
                  gd (inb (v9 + 6) 96) <|
                  nm (sI M30 (t + 10) (ix (v9 + 6)) (mI M30 t 23)) fun M34 =>
                  some M34) fun j31 =>
                if ¬ (mI M28 t 19) = 0 then
                  j31 M28
                else
                (FX12_isWord t 294 M28).bind fun r36 =>
                if r36 = 0 then
                  j31 M28
                else
                (FX12_next t M28).bind fun M37 =>
                (FX12_readExpression t 1 M37).bind fun M38 =>
                j31 M38) fun j22 =>
              if v1 = 6 then
                j22 M19
              else
              (FX12_readExpression t 0 M19).bind fun M39 =>
              j22 M39
            else
            gd (inb (v9 + v10) 96) <|
            nm (sI M11 (t + 10) (ix (v9 + v10)) 0) fun M41 =>
            nm (v10 + 1) fun v43 =>
            rec12 v43 M41) fuel 0 M8
        else
        some M8) fun j6 =>
      jn0 (
        j6 0) fun j44 =>
      if v1 = (-1) then
        j44
      else
      if 12 ≤ (mI M t 21) then
        j44
      else
      j6 1
    else
    gd (inb v2 7) <|
    (FX12_isWord t (mJ M (t + 17) (ix v2)) M).bind fun r48 =>
    jn1 (fun (v49 : Int32) =>
      nm (v2 + 1) fun v52 =>
      rec3 v49 v52) fun j50 =>
    if r48 = 0 then
      j50 v1
    else
    j50 v2) fuel (-1) 0
def FX12_endText (t : Nat) (M : Mem) : Option (Mem) :=
  jn1 (fun (M1 : Mem) =>
    nm (sI M1 t 20 0) fun M4 =>
    nm (sI M4 t 13 0) fun M5 =>
    some M5) fun j2 =>
  if ¬ (mI M t 19) = 0 then
    j2 M
  else
  if (mI M t 16) = 0 then
    j2 M
  else
  (FX12_must t 0 M).bind fun M6 =>
  j2 M6
def FX12_law (t : Nat) (M : Mem) : Option (Int32 × Mem) :=
  nm (sI M t 0 0) fun M1 =>
  if ¬ (mI M1 (t + 2) 1) = 6 then
    (FX12_beginText t 0 M1).bind fun M3 =>
    (FX12_readLaw t M3).bind fun M4 =>
    wl1 (fun (M5 : Mem) rec6 =>
      jn0 (
        (FX12_endText t M5).bind fun M10 =>
        if (mI M10 t 19) = 0 then
          nm (194 + (900 * (mI M10 (t + 2) 1))) fun v12 =>
          gd (inb (v12 + 1) 5594) <|
          nm (sI M10 (t + 2) (ix (v12 + 1)) (mI M10 t 21)) fun M14 =>
          wl2 (fun (v16 : Int32) (M17 : Mem) rec18 =>
            if (8 * (mI M17 t 21)) ≤ v16 then
              wl2 (fun (v20 : Int32) (M21 : Mem) rec22 =>
                if (mI M21 t 23) ≤ v20 then
                  nm (sI M21 (t + 2) 1 ((mI M21 (t + 2) 1) + 1)) fun M25 =>
                  bdM (FX12_tell t ((mI M25 (t + 2) 1) - 1) M25) fun r28 M27 =>
                  some (r28, M27)
                else
                gd (inb v20 400) <|
                gd (inb ((v12 + 98) + (2 * v20)) 5594) <|
                nm (sI M21 (t + 2) (ix ((v12 + 98) + (2 * v20))) (mI M21 (t + 11) (ix v20))) fun M32 =>
                gd (inb v20 400) <|
                gd (inb (((v12 + 98) + (2 * v20)) + 1) 5594) <|
                nm (sI M32 (t + 2) (ix (((v12 + 98) + (2 * v20)) + 1)) (mI M32 (t + 12) (ix v20))) fun M37 =>
                nm (v20 + 1) fun v39 =>
                rec22 v39 M37) fuel 0 M17
            else
            gd (inb v16 96) <|
            gd (inb ((v12 + 2) + v16) 5594) <|
            nm (sI M17 (t + 2) (ix ((v12 + 2) + v16)) (mI M17 (t + 10) (ix v16))) fun M43 =>
            nm (v16 + 1) fun v45 =>
            rec18 v45 M43) fuel 0 M14
        else
        bdM (FX12_tell t (-6) M10) fun r47 M46 =>
        some (r47, M46)) fun j8 =>
      if ¬ (mI M5 t 19) = 0 then
        j8
      else
      (FX12_isSign t 59 M5).bind fun r48 =>
      if r48 = 0 then
        j8
      else
      (FX12_next t M5).bind fun M49 =>
      (FX12_readLaw t M49).bind fun M50 =>
      rec6 M50) fuel M4
  else
  nm (sI M1 t 13 0) fun M51 =>
  bdM (FX12_tell t (-5) M51) fun r53 M52 =>
  some (r53, M52)
def FX12_isLaw (t : Nat) (p1 : Int32) (M : Mem) : Option (Int32) :=
  jn1 (fun (v1 : Int32) =>
    gd (isB v1) <|
    some v1) fun j2 =>
  jn0 (
    j2 1) fun j5 =>
  if p1 = (-1) then
    j5
  else
  (FX12_in (p1.toInt64) 0 (((mI M (t + 2) 1).toInt64) - 1)).bind fun r8 =>
  if r8 = 0 then
    j2 0
  else
  j5
def FX12_force (t : Nat) (p1 : Int32) (M : Mem) : Option (Int32 × Mem) :=
  nm (sI M t 0 0) fun M1 =>
  (FX12_isLaw t p1 M1).bind fun r2 =>
  jn2 (fun (v3 : Int32) (M4 : Mem) =>
    some (v3, M4)) fun j5 =>
  if r2 = 0 then
    bdM (FX12_tell t (-2) M1) fun r8 M7 =>
    j5 r8 M7
  else
  bdM (FX12_change t 2 p1 M1) fun r10 M9 =>
  j5 r10 M9
def FX12_keepAll (t : Nat) (p1 : Int32) (M : Mem) : Option (Mem) :=
  wl2 (fun (v1 : Int32) (M2 : Mem) rec3 =>
    if 122 ≤ v1 then
      some M2
    else
    gd (inb (8 + v1) 5594) <|
    gd (inb ((122 * p1) + v1) 2196) <|
    nm (sI M2 (t + 5) (ix ((122 * p1) + v1)) (mI M2 (t + 2) (ix (8 + v1)))) fun M8 =>
    nm (v1 + 1) fun v10 =>
    rec3 v10 M8) fuel 0 M
def FX12_remember (t : Nat) (p1 : Int32) (M : Mem) : Option (Mem) :=
  jn1 (fun (M1 : Mem) =>
    (FX12_keepAll t (mI M1 t 8) M1).bind fun M4 =>
    gd (inb (mI M4 t 8) 16) <|
    nm (sI M4 (t + 6) (ix (mI M4 t 8)) p1) fun M6 =>
    nm (sI M6 t 8 ((mI M6 t 8) + 1)) fun M8 =>
    some M8) fun j2 =>
  if ¬ (mI M t 8) = 16 then
    j2 M
  else
  wl2 (fun (v9 : Int32) (M10 : Mem) rec11 =>
    if 1830 ≤ v9 then
      wl2 (fun (v13 : Int32) (M14 : Mem) rec15 =>
        if 15 ≤ v13 then
          nm (sI M14 t 8 ((mI M14 t 8) - 1)) fun M17 =>
          j2 M17
        else
        gd (inb (v13 + 1) 16) <|
        gd (inb v13 16) <|
        nm (sI M14 (t + 6) (ix v13) (mI M14 (t + 6) (ix (v13 + 1)))) fun M21 =>
        nm (v13 + 1) fun v23 =>
        rec15 v23 M21) fuel 0 M10
    else
    gd (inb (v9 + 122) 2196) <|
    gd (inb v9 2196) <|
    nm (sI M10 (t + 5) (ix v9) (mI M10 (t + 5) (ix (v9 + 122)))) fun M27 =>
    nm (v9 + 1) fun v29 =>
    rec11 v29 M27) fuel 0 M
def FX12_draw (t : Nat) (p1 : Int32) (M : Mem) : Option (Int32 × Mem) :=
  nm (sJ M t 50 (lrm (((mJ M t 50) * 1103) + 12345) 1000003)) fun M1 =>
  gd ((p1.toInt64) != 0) <|
  some ((lrm (mJ M1 t 50) (p1.toInt64)).toInt32, M1)
def FX12_takeCard (t : Nat) (p1 : Int32) (M : Mem) : Option (Int32 × Mem) :=
  bdM (FX12_draw t p1 M) fun r2 M1 =>
  gd (inb r2 52) <|
  nm (mI M1 (t + 30) (ix r2)) fun v5 =>
  wl2 (fun (v6 : Int32) (M7 : Mem) rec8 =>
    if (p1 - 1) ≤ v6 then
      some (v5, M7)
    else
    gd (inb (v6 + 1) 52) <|
    gd (inb v6 52) <|
    nm (sI M7 (t + 30) (ix v6) (mI M7 (t + 30) (ix (v6 + 1)))) fun M13 =>
    nm (v6 + 1) fun v15 =>
    rec8 v15 M13) fuel r2 M1
def FX12_dealIt (t : Nat) (M : Mem) : Option (Mem) :=
  wl2 (fun (v1 : Int32) (M2 : Mem) rec3 =>
    if 52 ≤ v1 then
      nm (sI M2 (t + 2) 10 (1 - (mI M2 (t + 2) 10))) fun M7 =>
      wl2 (fun (v8 : Int32) (M9 : Mem) rec10 =>
        if 12 ≤ v8 then
          bdM (FX12_takeCard t 40 M9) fun r14 M13 =>
          nm (sI M13 (t + 2) 11 r14) fun M15 =>
          gd (inb (18 + (mI M15 (t + 2) 11)) 5594) <|
          nm (sI M15 (t + 2) (ix (18 + (mI M15 (t + 2) 11))) 3) fun M18 =>
          nm (sI M18 (t + 2) 9 1) fun M21 =>
          nm (sI M21 (t + 2) 12 0) fun M23 =>
          nm (sI M23 (t + 2) 13 0) fun M25 =>
          nm (sI M25 (t + 2) 14 (-1)) fun M27 =>
          nm (sI M27 (t + 2) 15 (-1)) fun M29 =>
          nm (sI M29 (t + 2) 8 ((mI M29 (t + 2) 8) + 1)) fun M31 =>
          some M31
        else
        bdM (FX12_takeCard t (52 - v8) M9) fun r33 M32 =>
        jn1 (fun (v35 : Int32) =>
          gd (inb (18 + r33) 5594) <|
          nm (sI M32 (t + 2) (ix (18 + r33)) v35) fun M38 =>
          nm (v8 + 1) fun v40 =>
          rec10 v40 M38) fun j36 =>
        if ¬ (irm v8 2) = 0 then
          j36 (mI M32 (t + 2) 10)
        else
        j36 (1 - (mI M32 (t + 2) 10))) fuel 0 M7
    else
    gd (inb v1 52) <|
    nm (sI M2 (t + 30) (ix v1) v1) fun M44 =>
    gd (inb (18 + v1) 5594) <|
    nm (sI M44 (t + 2) (ix (18 + v1)) (-1)) fun M47 =>
    gd (inb (70 + v1) 5594) <|
    nm (sI M47 (t + 2) (ix (70 + v1)) 0) fun M50 =>
    nm (v1 + 1) fun v52 =>
    rec3 v52 M50) fuel 0 M
def FX12_dealNow (t : Nat) (p1 : Int32) (M : Mem) : Option (Int32 × Mem) :=
  (FX12_in (p1.toInt64) 0 1000000).bind fun r1 =>
  if ¬ r1 = 0 then
    jn0 (
      some ((-3), M)) fun j3 =>
    if (mI M (t + 2) 9) = 1 then
      j3
    else
    if (mI M (t + 2) 9) = 2 then
      j3
    else
    if ¬ (mI M (t + 2) 8) = 999 then
      (FX12_remember t 0 M).bind fun M7 =>
      nm (sJ M7 t 50 (p1.toInt64)) fun M8 =>
      (FX12_dealIt t M8).bind fun M9 =>
      some ((mI M9 (t + 2) 11), M9)
    else
    j3
  else
  some ((-1), M)
def FX12_deal (t : Nat) (p1 : Int32) (M : Mem) : Option (Int32 × Mem) :=
  nm (sI M t 0 0) fun M1 =>
  bdM (FX12_dealNow t p1 M1) fun r3 M2 =>
  bdM (FX12_tell t r3 M2) fun r5 M4 =>
  some (r5, M4)
def FX12_peg (t : Nat) (p1 : Int32) (p2 : Int32) (M : Mem) : Option (Mem) :=
  gd (inb (16 + p1) 5594) <|
  (FX12_bounded (((mI M (t + 2) (ix (16 + p1))) + p2).toInt64) 0 9999).bind fun r4 =>
  gd (inb (16 + p1) 5594) <|
  nm (sI M (t + 2) (ix (16 + p1)) r4) fun M5 =>
  some M5
def FX12_canPlay (t : Nat) (p1 : Int32) (p2 : Int32) (M : Mem) : Option (Int32 × Mem) :=
  gd (inb (18 + p1) 5594) <|
  jn2 (fun (v3 : Int32) (M4 : Mem) =>
    gd (isB v3) <|
    some (v3, M4)) fun j5 =>
  jn1 (fun (M8 : Mem) =>
    j5 0 M8) fun j9 =>
  if ¬ (mI M (t + 2) (ix (18 + p1))) = p2 then
    j9 M
  else
  gd (inb (70 + p1) 5594) <|
  if ¬ (mI M (t + 2) (ix (70 + p1))) = 0 then
    j9 M
  else
  bdM (FX12_valueOf t p1 M) fun r14 M13 =>
  if 31 < (r14 + (mI M13 (t + 2) 12)) then
    j9 M13
  else
  bdM (FX12_isBarred t p1 M13) fun r17 M16 =>
  if ¬ r17 = 0 then
    j9 M16
  else
  j5 1 M16
def FX12_canAny (t : Nat) (p1 : Int32) (M : Mem) : Option (Int32 × Mem) :=
  wl3 (fun (v1 : Int32) (v2 : Int32) (M3 : Mem) rec4 =>
    jn0 (
      gd (isB v1) <|
      some (v1, M3)) fun j6 =>
    if 52 ≤ v2 then
      j6
    else
    if ¬ v1 = 0 then
      j6
    else
    bdM (FX12_canPlay t v2 p1 M3) fun r10 M9 =>
    nm (v2 + 1) fun v11 =>
    rec4 r10 v11 M9) fuel 0 0 M
def FX12_turnTo (t : Nat) (p1 : Int32) (p2 : Int32) (M : Mem) : Option (Mem) :=
  bdM (FX12_canAny t p1 M) fun r3 M2 =>
  jn2 (fun (v4 : Int32) (M5 : Mem) =>
    nm (sI M5 (t + 2) 14 v4) fun M8 =>
    some M8) fun j6 =>
  if r3 = 0 then
    bdM (FX12_canAny t p2 M2) fun r10 M9 =>
    if r10 = 0 then
      j6 (-1) M9
    else
    j6 p2 M9
  else
  j6 p1 M2
def FX12_layIt (t : Nat) (p1 : Int32) (M : Mem) : Option (Mem) :=
  gd (inb (18 + p1) 5594) <|
  nm (sI M (t + 2) (ix (18 + p1)) 2) fun M2 =>
  (FX12_cardsAt t 0 M2).bind fun r4 =>
  jn1 (fun (M5 : Mem) =>
    some M5) fun j6 =>
  if ¬ r4 = 4 then
    j6 M2
  else
  (FX12_cardsAt t 1 M2).bind fun r8 =>
  if ¬ r8 = 4 then
    j6 M2
  else
  nm (mI M2 (t + 2) 10) fun v10 =>
  nm (sI M2 (t + 2) 9 2) fun M12 =>
  nm (sI M12 (t + 2) 12 0) fun M14 =>
  nm (sI M14 (t + 2) 13 0) fun M16 =>
  nm (sI M16 (t + 2) 15 (-1)) fun M18 =>
  wl2 (fun (v19 : Int32) (M20 : Mem) rec21 =>
    if 52 ≤ v19 then
      (FX12_rankOf (mI M20 (t + 2) 11)).bind fun r24 =>
      jn1 (fun (M25 : Mem) =>
        (FX12_turnTo t (1 - v10) v10 M25).bind fun M28 =>
        j6 M28) fun j26 =>
      if ¬ r24 = 10 then
        j26 M20
      else
      (FX12_peg t v10 2 M20).bind fun M29 =>
      j26 M29
    else
    gd (inb (70 + v19) 5594) <|
    nm (sI M20 (t + 2) (ix (70 + v19)) 0) fun M31 =>
    nm (v19 + 1) fun v33 =>
    rec21 v33 M31) fuel 0 M18
def FX12_layNow (t : Nat) (p1 : Int32) (p2 : Int32) (M : Mem) : Option (Int32 × Mem) :=
  (FX12_isCard p1).bind fun r1 =>
  jn0 (
    some ((-1), M)) fun j2 =>
  if r1 = 0 then
    j2
  else
  (FX12_isPlayer p2).bind fun r4 =>
  if ¬ r4 = 0 then
    jn0 (
      some ((-3), M)) fun j6 =>
    if ¬ (mI M (t + 2) 9) = 1 then
      j6
    else
    gd (inb (18 + p1) 5594) <|
    if ¬ (mI M (t + 2) (ix (18 + p1))) = p2 then
      j6
    else
    (FX12_cardsAt t p2 M).bind fun r10 =>
    if 5 ≤ r10 then
      (FX12_remember t 1 M).bind fun M11 =>
      (FX12_layIt t p1 M11).bind fun M12 =>
      (FX12_cardsAt t 2 M12).bind fun r13 =>
      some (r13, M12)
    else
    j6
  else
  j2
def FX12_lay (t : Nat) (p1 : Int32) (p2 : Int32) (M : Mem) : Option (Int32 × Mem) :=
  nm (sI M t 0 0) fun M1 =>
  bdM (FX12_layNow t p1 p2 M1) fun r3 M2 =>
  bdM (FX12_tell t r3 M2) fun r5 M4 =>
  some (r5, M4)
def FX12_countsAs (t : Nat) (p1 : Int32) (p2 : Int32) (p3 : Int32) (p4 : Int32) (p5 : Int32) (p6 : Int32) (M : Mem) : Option (Int32 × Mem) :=
  bdM (FX12_tells t p1 p2 p3 p4 p5 (p6.toInt64) M) fun r2 M1 =>
  (FX12_bounded r2 0 99).bind fun r3 =>
  some (r3, M1)
def FX12_lineCard (t : Nat) (p1 : Int32) (M : Mem) : Option (Int32) :=
  gd (inb (((122 + (mI M (t + 2) 13)) - 1) - p1) 5594) <|
  some (mI M (t + 2) (ix (((122 + (mI M (t + 2) 13)) - 1) - p1)))
def FX12_linePairs (t : Nat) (M : Mem) : Option (Int32 × Mem) :=
  wl1 (fun (v1 : Int32) rec2 =>
    jn0 (
      jn2 (fun (v7 : Int32) (M8 : Mem) =>
        some (v7, M8)) fun j9 =>
      if 2 ≤ v1 then
        (FX12_lineCard t 0 M).bind fun r11 =>
        (FX12_rankOf r11).bind fun r12 =>
        bdM (FX12_countsAs t 2 r12 (-1) 2 (-1) 2 M) fun r14 M13 =>
        j9 (r14 * ((v1 * (v1 - 1)) / 2)) M13
      else
      j9 0 M) fun j5 =>
    if (mI M (t + 2) 13) ≤ v1 then
      j5
    else
    (FX12_lineCard t v1 M).bind fun r15 =>
    (FX12_rankOf r15).bind fun r16 =>
    (FX12_lineCard t 0 M).bind fun r17 =>
    (FX12_rankOf r17).bind fun r18 =>
    if ¬ r16 = r18 then
      j5
    else
    nm (v1 + 1) fun v19 =>
    rec2 v19) fuel 1
def FX12_is (p0 : Int32) (p1 : Int32) : Option (Int32) :=
  jn1 (fun (v1 : Int32) =>
    gd (isB v1) <|
    some v1) fun j2 =>
  if ¬ ((p0 >>> (p1 &&& 31)) &&& 1) = 1 then
    j2 0
  else
  j2 1
def FX12_isRun (t : Nat) (p1 : Int32) (M : Mem) : Option (Int32) :=
  wl5 (fun (v1 : Int32) (v2 : Int32) (v3 : Int32) (v4 : Int32) (v5 : Int32) rec6 =>
    if p1 ≤ v5 then
      jn1 (fun (v8 : Int32) =>
        gd (isB v8) <|
        some v8) fun j9 =>
      jn0 (
        j9 0) fun j12 =>
      if v4 = 0 then
        j12
      else
      if ¬ (v2 - v1) = (p1 - 1) then
        j12
      else
      j9 1
    else
    (FX12_lineCard t v5 M).bind fun r14 =>
    (FX12_rankOf r14).bind fun r15 =>
    jn1 (fun (v16 : Int32) =>
      nm (v3 ||| (1 <<< (r15 &&& 31))) fun v19 =>
      jn1 (fun (v20 : Int32) =>
        jn1 (fun (v23 : Int32) =>
          nm (v5 + 1) fun v26 =>
          rec6 v20 v23 v19 v16 v26) fun j24 =>
        if r15 ≤ v2 then
          j24 v2
        else
        j24 r15) fun j21 =>
      if v1 ≤ r15 then
        j21 v1
      else
      j21 r15) fun j17 =>
    jn0 (
      j17 0) fun j27 =>
    if v4 = 0 then
      j27
    else
    (FX12_is v3 r15).bind fun r29 =>
    if ¬ r29 = 0 then
      j27
    else
    j17 1) fuel 13 (-1) 0 1 0
def FX12_lineRun (t : Nat) (M : Mem) : Option (Int32 × Mem) :=
  nm (mI M (t + 2) 13) fun v2 =>
  wl1 (fun (v3 : Int32) rec4 =>
    jn0 (
      jn2 (fun (v8 : Int32) (M9 : Mem) =>
        some (v8, M9)) fun j10 =>
      if 3 ≤ v3 then
        bdM (FX12_countsAs t 3 (-1) (-1) v3 (-1) v3 M) fun r13 M12 =>
        j10 r13 M12
      else
      j10 0 M) fun j6 =>
    if v3 ≤ 2 then
      j6
    else
    (FX12_isRun t v3 M).bind fun r14 =>
    if ¬ r14 = 0 then
      j6
    else
    nm (v3 + (-1)) fun v15 =>
    rec4 v15) fuel v2
def FX12_playIt (t : Nat) (p1 : Int32) (M : Mem) : Option (Int32 × Mem) :=
  nm (mI M (t + 2) 14) fun v2 =>
  gd (inb (70 + p1) 5594) <|
  nm (sI M (t + 2) (ix (70 + p1)) 1) fun M4 =>
  gd (inb (122 + (mI M4 (t + 2) 13)) 5594) <|
  nm (sI M4 (t + 2) (ix (122 + (mI M4 (t + 2) 13))) p1) fun M8 =>
  nm (sI M8 (t + 2) 13 ((mI M8 (t + 2) 13) + 1)) fun M11 =>
  bdM (FX12_valueOf t p1 M11) fun r14 M13 =>
  nm (sI M13 (t + 2) 12 ((mI M11 (t + 2) 12) + r14)) fun M15 =>
  nm (sI M15 (t + 2) 15 v2) fun M17 =>
  jn2 (fun (v20 : Int32) (M21 : Mem) =>
    jn1 (fun (v25 : Int32) =>
      nm (v20 + v25) fun v28 =>
      bdM (FX12_linePairs t M21) fun r30 M29 =>
      bdM (FX12_lineRun t M29) fun r32 M31 =>
      nm (v28 + (r30 + r32)) fun v33 =>
      (FX12_turnTo t (1 - v2) v2 M31).bind fun M34 =>
      jn2 (fun (v36 : Int32) (M37 : Mem) =>
        (FX12_peg t v2 v36 M37).bind fun M40 =>
        some (v36, M40)) fun j38 =>
      if ¬ (mI M34 (t + 2) 14) = (-1) then
        j38 v33 M34
      else
      jn1 (fun (v42 : Int32) =>
        nm (v33 + v42) fun v45 =>
        nm (sI M34 (t + 2) 12 0) fun M47 =>
        nm (sI M47 (t + 2) 13 0) fun M49 =>
        (FX12_turnTo t (1 - v2) v2 M49).bind fun M50 =>
        j38 v45 M50) fun j43 =>
      if ¬ (mI M34 (t + 2) 12) = 31 then
        j43 1
      else
      j43 0) fun j26 =>
    if ¬ (mI M21 (t + 2) 12) = 31 then
      j26 0
    else
    j26 2) fun j22 =>
  if ¬ (mI M17 (t + 2) 12) = (mI M17 (t + 2) 7) then
    j22 0 M17
  else
  bdM (FX12_countsAs t 1 (-1) (-1) (mI M17 (t + 2) 13) (-1) 2 M17) fun r53 M52 =>
  j22 r53 M52
def FX12_playNow (t : Nat) (p1 : Int32) (p2 : Int32) (M : Mem) : Option (Int32 × Mem) :=
  (FX12_isCard p1).bind fun r1 =>
  jn0 (
    some ((-1), M)) fun j2 =>
  if r1 = 0 then
    j2
  else
  (FX12_isPlayer p2).bind fun r4 =>
  if ¬ r4 = 0 then
    jn1 (fun (M6 : Mem) =>
      some ((-3), M6)) fun j7 =>
    if ¬ (mI M (t + 2) 9) = 2 then
      j7 M
    else
    if ¬ (mI M (t + 2) 14) = p2 then
      j7 M
    else
    bdM (FX12_canPlay t p1 p2 M) fun r11 M10 =>
    if ¬ r11 = 0 then
      (FX12_remember t 2 M10).bind fun M12 =>
      bdM (FX12_playIt t p1 M12) fun r14 M13 =>
      some (r14, M13)
    else
    j7 M10
  else
  j2
def FX12_play (t : Nat) (p1 : Int32) (p2 : Int32) (M : Mem) : Option (Int32 × Mem) :=
  nm (sI M t 0 0) fun M1 =>
  bdM (FX12_playNow t p1 p2 M1) fun r3 M2 =>
  bdM (FX12_tell t r3 M2) fun r5 M4 =>
  some (r5, M4)
def FX12_layCounts (t : Nat) (p1 : Int32) (M : Mem) : Option (Mem) :=
  wl2 (fun (v1 : Int32) (M2 : Mem) rec3 =>
    if 52 ≤ v1 then
      wl2 (fun (v5 : Int32) (M6 : Mem) rec7 =>
        if 6 ≤ v5 then
          wl2 (fun (v9 : Int32) (M10 : Mem) rec11 =>
            if 13 ≤ v9 then
              wl2 (fun (v13 : Int32) (M14 : Mem) rec15 =>
                if 4 ≤ v13 then
                  some M14
                else
                bdM (FX12_countsAs t 4 (-1) v13 4 p1 4 M14) fun r19 M18 =>
                gd (inb v13 8) <|
                nm (sI M18 (t + 25) (ix v13) r19) fun M20 =>
                bdM (FX12_countsAs t 4 (-1) v13 5 p1 5 M20) fun r24 M23 =>
                gd (inb (4 + v13) 8) <|
                nm (sI M23 (t + 25) (ix (4 + v13)) r24) fun M25 =>
                bdM (FX12_countsAs t 5 (-1) v13 (-1) p1 1 M25) fun r29 M28 =>
                gd (inb v13 4) <|
                nm (sI M28 (t + 26) (ix v13) r29) fun M30 =>
                nm (v13 + 1) fun v32 =>
                rec15 v32 M30) fuel 0 M10
            else
            bdM (FX12_countsAs t 2 v9 (-1) 2 p1 2 M10) fun r35 M34 =>
            gd (inb v9 13) <|
            nm (sI M34 (t + 23) (ix v9) r35) fun M36 =>
            nm (v9 + 1) fun v38 =>
            rec11 v38 M36) fuel 0 M6
        else
        bdM (FX12_countsAs t 1 (-1) (-1) v5 p1 2 M6) fun r41 M40 =>
        gd (inb v5 6) <|
        nm (sI M40 (t + 22) (ix v5) r41) fun M42 =>
        bdM (FX12_countsAs t 3 (-1) (-1) v5 p1 v5 M42) fun r46 M45 =>
        gd (inb v5 6) <|
        nm (sI M45 (t + 24) (ix v5) r46) fun M47 =>
        nm (v5 + 1) fun v49 =>
        rec7 v49 M47) fuel 2 M2
    else
    bdM (FX12_valueOf t v1 M2) fun r52 M51 =>
    gd (inb v1 52) <|
    nm (sI M51 (t + 21) (ix v1) r52) fun M53 =>
    nm (v1 + 1) fun v55 =>
    rec3 v55 M53) fuel 0 M
def FX12_fifteensOf (t : Nat) (M : Mem) : Option (Int32) :=
  wl2 (fun (v1 : Int32) (v2 : Int32) rec3 =>
    if 32 ≤ v2 then
      some v1
    else
    wl3 (fun (v5 : Int32) (v6 : Int32) (v7 : Int32) rec8 =>
      if 5 ≤ v7 then
        jn1 (fun (v10 : Int32) =>
          nm (v1 + v10) fun v13 =>
          nm (v2 + 1) fun v14 =>
          rec3 v13 v14) fun j11 =>
        jn0 (
          j11 0) fun j15 =>
        if v6 ≤ 1 then
          j15
        else
        if ¬ v5 = (mI M (t + 2) 7) then
          j15
        else
        gd (inb v6 6) <|
        j11 (mI M (t + 22) (ix v6))
      else
      (FX12_is v2 v7).bind fun r20 =>
      jn1 (fun (v21 : Int32) =>
        nm (v5 + v21) fun v24 =>
        nm (v6 + ((v2 >>> (v7 &&& 31)) &&& 1)) fun v25 =>
        nm (v7 + 1) fun v26 =>
        rec8 v24 v25 v26) fun j22 =>
      if r20 = 0 then
        j22 0
      else
      gd (inb v7 5) <|
      gd (inb (mI M (t + 27) (ix v7)) 52) <|
      j22 (mI M (t + 21) (ix (mI M (t + 27) (ix v7))))) fuel 0 0 0) fuel 0 3
def FX12_pairsOf (t : Nat) (M : Mem) : Option (Int32) :=
  wl2 (fun (v1 : Int32) (v2 : Int32) rec3 =>
    if 5 ≤ v2 then
      some v1
    else
    wl2 (fun (v5 : Int32) (v6 : Int32) rec7 =>
      if v2 ≤ v6 then
        nm (v2 + 1) fun v9 =>
        rec3 v5 v9
      else
      gd (inb v2 5) <|
      (FX12_rankOf (mI M (t + 27) (ix v2))).bind fun r12 =>
      gd (inb v6 5) <|
      (FX12_rankOf (mI M (t + 27) (ix v6))).bind fun r15 =>
      jn1 (fun (v16 : Int32) =>
        nm (v5 + v16) fun v19 =>
        nm (v6 + 1) fun v20 =>
        rec7 v19 v20) fun j17 =>
      if ¬ r12 = r15 then
        j17 0
      else
      gd (inb v2 5) <|
      (FX12_rankOf (mI M (t + 27) (ix v2))).bind fun r24 =>
      gd (inb r24 13) <|
      j17 (mI M (t + 23) (ix r24))) fuel v1 0) fuel 0 0
def FX12_runsOf (t : Nat) (M : Mem) : Option (Int32 × Mem) :=
  wl2 (fun (v1 : Int32) (M2 : Mem) rec3 =>
    if 14 ≤ v1 then
      wl2 (fun (v5 : Int32) (M6 : Mem) rec7 =>
        if 5 ≤ v5 then
          wl4 (fun (v9 : Int32) (v10 : Int32) (v11 : Int32) (v12 : Int32) rec13 =>
            if 14 ≤ v12 then
              some (v9, M6)
            else
            gd (inb v12 14) <|
            jn3 (fun (v17 : Int32) (v18 : Int32) (v19 : Int32) =>
              nm (v12 + 1) fun v22 =>
              rec13 v17 v18 v19 v22) fun j20 =>
            if (mI M6 (t + 29) (ix v12)) ≤ 0 then
              jn1 (fun (v23 : Int32) =>
                nm (v9 + v23) fun v26 =>
                j20 v26 0 1) fun j24 =>
              if v10 ≤ 2 then
                j24 0
              else
              gd (inb v10 6) <|
              j24 (v11 * (mI M6 (t + 24) (ix v10)))
            else
            nm (v10 + 1) fun v29 =>
            gd (inb v12 14) <|
            nm (v11 * (mI M6 (t + 29) (ix v12))) fun v32 =>
            j20 v9 v29 v32) fuel 0 0 1 0
        else
        gd (inb v5 5) <|
        (FX12_rankOf (mI M6 (t + 27) (ix v5))).bind fun r36 =>
        gd (inb r36 14) <|
        gd (inb r36 14) <|
        nm (sI M6 (t + 29) (ix r36) ((mI M6 (t + 29) (ix r36)) + 1)) fun M38 =>
        nm (v5 + 1) fun v40 =>
        rec7 v40 M38) fuel 0 M2
    else
    gd (inb v1 14) <|
    nm (sI M2 (t + 29) (ix v1) 0) fun M42 =>
    nm (v1 + 1) fun v44 =>
    rec3 v44 M42) fuel 0 M
def FX12_flushOf (t : Nat) (p1 : Int32) (M : Mem) : Option (Int32) :=
  nm (irm (mI M (t + 27) 0) 4) fun v2 =>
  wl1 (fun (v3 : Int32) rec4 =>
    if 4 ≤ v3 then
      jn1 (fun (v7 : Int32) =>
        some v7) fun j8 =>
      if ¬ (irm (mI M (t + 27) 4) 4) = v2 then
        if ¬ p1 = 1 then
          gd (inb v2 8) <|
          j8 (mI M (t + 25) (ix v2))
        else
        j8 0
      else
      gd (inb (4 + v2) 8) <|
      j8 (mI M (t + 25) (ix (4 + v2)))
    else
    gd (inb v3 5) <|
    if (irm (mI M (t + 27) (ix v3)) 4) = v2 then
      nm (v3 + 1) fun v16 =>
      rec4 v16
    else
    some 0) fuel 1
def FX12_nobsOf (t : Nat) (M : Mem) : Option (Int32) :=
  wl2 (fun (v1 : Int32) (v2 : Int32) rec3 =>
    if 4 ≤ v2 then
      some v1
    else
    gd (inb v2 5) <|
    (FX12_rankOf (mI M (t + 27) (ix v2))).bind fun r7 =>
    jn1 (fun (v8 : Int32) =>
      nm (v1 + v8) fun v11 =>
      nm (v2 + 1) fun v12 =>
      rec3 v11 v12) fun j9 =>
    jn0 (
      j9 0) fun j13 =>
    if ¬ r7 = 10 then
      j13
    else
    gd (inb v2 5) <|
    if ¬ (irm (mI M (t + 27) (ix v2)) 4) = (irm (mI M (t + 27) 4) 4) then
      j13
    else
    gd (inb v2 5) <|
    gd (inb (irm (mI M (t + 27) (ix v2)) 4) 4) <|
    j9 (mI M (t + 26) (ix (irm (mI M (t + 27) (ix v2)) 4)))) fuel 0 0
def FX12_countFive (t : Nat) (p1 : Int32) (M : Mem) : Option (Int32 × Mem) :=
  (FX12_fifteensOf t M).bind fun r2 =>
  nm (sI M (t + 28) 1 r2) fun M3 =>
  (FX12_pairsOf t M3).bind fun r5 =>
  nm (sI M3 (t + 28) 2 r5) fun M6 =>
  bdM (FX12_runsOf t M6) fun r9 M8 =>
  nm (sI M8 (t + 28) 3 r9) fun M10 =>
  (FX12_flushOf t p1 M10).bind fun r12 =>
  nm (sI M10 (t + 28) 4 r12) fun M13 =>
  (FX12_nobsOf t M13).bind fun r15 =>
  nm (sI M13 (t + 28) 5 r15) fun M16 =>
  nm (sI M16 (t + 28) 0 (((((mI M16 (t + 28) 1) + (mI M16 (t + 28) 2)) + (mI M16 (t + 28) 3)) + (mI M16 (t + 28) 4)) + (mI M16 (t + 28) 5))) fun M23 =>
  some ((mI M23 (t + 28) 0), M23)
def FX12_countAt (t : Nat) (p1 : Int32) (p2 : Int32) (M : Mem) : Option (Int32 × Mem) :=
  wl3 (fun (v1 : Int32) (v2 : Int32) (M3 : Mem) rec4 =>
    if 52 ≤ v2 then
      nm (sI M3 (t + 27) 4 (mI M3 (t + 2) 11)) fun M8 =>
      (FX12_layCounts t p2 M8).bind fun M9 =>
      bdM (FX12_countFive t p2 M9) fun r11 M10 =>
      some (r11, M10)
    else
    gd (inb (18 + v2) 5594) <|
    jn2 (fun (v14 : Int32) (M15 : Mem) =>
      nm (v2 + 1) fun v18 =>
      rec4 v14 v18 M15) fun j16 =>
    if ¬ (mI M3 (t + 2) (ix (18 + v2))) = p1 then
      j16 v1 M3
    else
    gd (inb v1 5) <|
    nm (sI M3 (t + 27) (ix v1) v2) fun M20 =>
    nm (v1 + 1) fun v22 =>
    j16 v22 M20) fuel 0 0 M
def FX12_showIt (t : Nat) (M : Mem) : Option (Int32 × Mem) :=
  nm (mI M (t + 2) 10) fun v2 =>
  bdM (FX12_countAt t (1 - v2) 0 M) fun r4 M3 =>
  bdM (FX12_countAt t v2 0 M3) fun r6 M5 =>
  bdM (FX12_countAt t 2 1 M5) fun r8 M7 =>
  (FX12_peg t (1 - v2) r4 M7).bind fun M9 =>
  (FX12_peg t v2 (r6 + r8) M9).bind fun M10 =>
  nm (sI M10 (t + 2) 9 3) fun M12 =>
  some (((r4 + r6) + r8), M12)
def FX12_showNow (t : Nat) (M : Mem) : Option (Int32 × Mem) :=
  jn0 (
    some ((-3), M)) fun j2 =>
  if ¬ (mI M (t + 2) 9) = 2 then
    j2
  else
  if (mI M (t + 2) 14) = (-1) then
    (FX12_remember t 3 M).bind fun M5 =>
    bdM (FX12_showIt t M5) fun r7 M6 =>
    some (r7, M6)
  else
  j2
def FX12_show (t : Nat) (M : Mem) : Option (Int32 × Mem) :=
  nm (sI M t 0 0) fun M1 =>
  bdM (FX12_showNow t M1) fun r3 M2 =>
  bdM (FX12_tell t r3 M2) fun r5 M4 =>
  some (r5, M4)
def FX12_heldOnes (t : Nat) (M : Mem) : Option (Int32) :=
  wl2 (fun (v1 : Int32) (v2 : Int32) rec3 =>
    if 52 ≤ v2 then
      some v1
    else
    gd (inb (130 + v2) 5594) <|
    nm (v1 + (mI M (t + 2) (ix (130 + v2)))) fun v7 =>
    nm (v2 + 1) fun v8 =>
    rec3 v7 v8) fuel 0 0
def FX12_hold (t : Nat) (p1 : Int32) (M : Mem) : Option (Int32 × Mem) :=
  nm (sI M t 0 0) fun M1 =>
  (FX12_isCard p1).bind fun r2 =>
  if ¬ r2 = 0 then
    (FX12_isHeld t p1 M1).bind fun r3 =>
    if r3 = 0 then
      (FX12_heldOnes t M1).bind fun r4 =>
      if ¬ r4 = 6 then
        gd (inb (130 + p1) 5594) <|
        nm (sI M1 (t + 2) (ix (130 + p1)) 1) fun M6 =>
        (FX12_heldOnes t M6).bind fun r8 =>
        bdM (FX12_tell t r8 M6) fun r10 M9 =>
        some (r10, M9)
      else
      bdM (FX12_tell t (-5) M1) fun r12 M11 =>
      some (r12, M11)
    else
    bdM (FX12_tell t (-3) M1) fun r14 M13 =>
    some (r14, M13)
  else
  bdM (FX12_tell t (-1) M1) fun r16 M15 =>
  some (r16, M15)
def FX12_drop (t : Nat) (M : Mem) : Option (Int32 × Mem) :=
  nm (sI M t 0 0) fun M1 =>
  (FX12_heldOnes t M1).bind fun r2 =>
  wl2 (fun (v3 : Int32) (M4 : Mem) rec5 =>
    if 52 ≤ v3 then
      some (r2, M4)
    else
    gd (inb (130 + v3) 5594) <|
    nm (sI M4 (t + 2) (ix (130 + v3)) 0) fun M8 =>
    nm (v3 + 1) fun v10 =>
    rec5 v10 M8) fuel 0 M1
def FX12_canCount (t : Nat) (p1 : Int32) (M : Mem) : Option (Int32) :=
  (FX12_heldOnes t M).bind fun r1 =>
  jn1 (fun (v2 : Int32) =>
    gd (isB v2) <|
    some v2) fun j3 =>
  jn0 (
    j3 0) fun j6 =>
  if ¬ r1 = 4 then
    j6
  else
  (FX12_isCard p1).bind fun r8 =>
  if r8 = 0 then
    j6
  else
  (FX12_isHeld t p1 M).bind fun r9 =>
  if ¬ r9 = 0 then
    j6
  else
  j3 1
def FX12_laySix (t : Nat) (M : Mem) : Option (Int32 × Mem) :=
  wl3 (fun (v1 : Int32) (v2 : Int32) (M3 : Mem) rec4 =>
    if 52 ≤ v2 then
      some (v1, M3)
    else
    (FX12_isHeld t v2 M3).bind fun r6 =>
    jn2 (fun (v7 : Int32) (M8 : Mem) =>
      nm (v2 + 1) fun v11 =>
      rec4 v7 v11 M8) fun j9 =>
    if r6 = 0 then
      j9 v1 M3
    else
    gd (inb v1 6) <|
    nm (sI M3 (t + 31) (ix v1) v2) fun M13 =>
    nm (v1 + 1) fun v15 =>
    j9 v15 M13) fuel 0 0 M
def FX12_takeHeld (t : Nat) (M : Mem) : Option (Mem) :=
  bdM (FX12_laySix t M) fun r2 M1 =>
  wl2 (fun (v3 : Int32) (M4 : Mem) rec5 =>
    if 4 ≤ v3 then
      some M4
    else
    gd (inb v3 6) <|
    gd (inb v3 5) <|
    nm (sI M4 (t + 27) (ix v3) (mI M4 (t + 31) (ix v3))) fun M10 =>
    nm (v3 + 1) fun v12 =>
    rec5 v12 M10) fuel 0 M1
def FX12_counted (t : Nat) (p1 : Int32) (p2 : Int32) (p3 : Int32) (M : Mem) : Option (Int32 × Mem) :=
  nm (sI M t 0 0) fun M1 =>
  (FX12_canCount t p1 M1).bind fun r2 =>
  jn0 (
    some ((-1), M1)) fun j3 =>
  if r2 = 0 then
    j3
  else
  (FX12_in (p2.toInt64) 0 1).bind fun r5 =>
  if r5 = 0 then
    j3
  else
  (FX12_in (p3.toInt64) 0 5).bind fun r6 =>
  if ¬ r6 = 0 then
    (FX12_takeHeld t M1).bind fun M7 =>
    nm (sI M7 (t + 27) 4 p1) fun M9 =>
    (FX12_layCounts t p2 M9).bind fun M10 =>
    bdM (FX12_countFive t p2 M10) fun r12 M11 =>
    gd (inb p3 6) <|
    some ((mI M11 (t + 28) (ix p3)), M11)
  else
  j3
def FX12_takeFour (t : Nat) (p1 : Int32) (p2 : Int32) (M : Mem) : Option (Mem) :=
  wl3 (fun (v1 : Int32) (v2 : Int32) (M3 : Mem) rec4 =>
    if 6 ≤ v2 then
      some M3
    else
    jn2 (fun (v6 : Int32) (M7 : Mem) =>
      nm (v2 + 1) fun v10 =>
      rec4 v6 v10 M7) fun j8 =>
    if v2 = p1 then
      j8 v1 M3
    else
    if v2 = p2 then
      j8 v1 M3
    else
    gd (inb v2 6) <|
    gd (inb v1 5) <|
    nm (sI M3 (t + 27) (ix v1) (mI M3 (t + 31) (ix v2))) fun M14 =>
    nm (v1 + 1) fun v16 =>
    j8 v16 M14) fuel 0 0 M
def FX12_withAll (t : Nat) (M : Mem) : Option (Int32 × Mem) :=
  wl3 (fun (v1 : Int32) (v2 : Int32) (M3 : Mem) rec4 =>
    if 52 ≤ v2 then
      some (v1, M3)
    else
    (FX12_isHeld t v2 M3).bind fun r6 =>
    jn2 (fun (v7 : Int32) (M8 : Mem) =>
      nm (v2 + 1) fun v11 =>
      rec4 v7 v11 M8) fun j9 =>
    if ¬ r6 = 0 then
      j9 v1 M3
    else
    nm (sI M3 (t + 27) 4 v2) fun M13 =>
    bdM (FX12_countFive t 0 M13) fun r15 M14 =>
    nm (v1 + r15) fun v16 =>
    j9 v16 M14) fuel 0 0 M
def FX12_kept (t : Nat) (p1 : Int32) (M : Mem) : Option (Int32 × Mem) :=
  nm (sI M t 0 0) fun M1 =>
  (FX12_heldOnes t M1).bind fun r2 =>
  jn0 (
    some ((-1), M1)) fun j3 =>
  if ¬ r2 = 6 then
    j3
  else
  (FX12_in (p1.toInt64) 0 2).bind fun r5 =>
  if ¬ r5 = 0 then
    bdM (FX12_laySix t M1) fun r7 M6 =>
    (FX12_layCounts t 0 M6).bind fun M8 =>
    wl5 (fun (v9 : Int32) (v10 : Int32) (v11 : Int32) (v12 : Int32) (M13 : Mem) rec14 =>
      if 6 ≤ v12 then
        jn1 (fun (v16 : Int32) =>
          some (v16, M13)) fun j17 =>
        if ¬ p1 = 0 then
          if ¬ p1 = 1 then
            j17 v11
          else
          j17 v10
        else
        j17 v9
      else
      nm (v12 + 1) fun v19 =>
      wl5 (fun (v20 : Int32) (v21 : Int32) (v22 : Int32) (v23 : Int32) (M24 : Mem) rec25 =>
        if 6 ≤ v23 then
          nm (v12 + 1) fun v27 =>
          rec14 v20 v21 v22 v27 M24
        else
        (FX12_takeFour t v12 v23 M24).bind fun M28 =>
        bdM (FX12_withAll t M28) fun r30 M29 =>
        jn1 (fun (v31 : Int32) =>
          jn1 (fun (v34 : Int32) =>
            jn1 (fun (v37 : Int32) =>
              nm (v23 + 1) fun v40 =>
              rec25 v37 v31 v34 v40 M29) fun j38 =>
            if r30 ≤ v20 then
              j38 v20
            else
            j38 r30) fun j35 =>
          if r30 ≤ v20 then
            j35 v22
          else
          gd (inb v23 6) <|
          j35 (mI M29 (t + 31) (ix v23))) fun j32 =>
        if r30 ≤ v20 then
          j32 v21
        else
        gd (inb v12 6) <|
        j32 (mI M29 (t + 31) (ix v12))) fuel v9 v10 v11 v19 M13) fuel (-1) (-1) (-1) 0 M8
  else
  j3
def FX12_isFree (t : Nat) (p1 : Int32) (p2 : Int32) (p3 : Int32) (M : Mem) : Option (Int32) :=
  (FX12_isHeld t p1 M).bind fun r1 =>
  jn1 (fun (v2 : Int32) =>
    gd (isB v2) <|
    some v2) fun j3 =>
  jn0 (
    j3 0) fun j6 =>
  if ¬ r1 = 0 then
    j6
  else
  if p1 = p2 then
    j6
  else
  if p1 = p3 then
    j6
  else
  j3 1
def FX12_cribOf (t : Nat) (p1 : Int32) (p2 : Int32) (M : Mem) : Option (Int64 × Mem) :=
  nm (sI M t 0 0) fun M1 =>
  (FX12_isCard p1).bind fun r2 =>
  jn0 (
    some ((-1), M1)) fun j3 =>
  if r2 = 0 then
    j3
  else
  (FX12_isCard p2).bind fun r5 =>
  if r5 = 0 then
    j3
  else
  if ¬ p1 = p2 then
    (FX12_layCounts t 1 M1).bind fun M6 =>
    nm (sI M6 (t + 27) 0 p1) fun M8 =>
    nm (sI M8 (t + 27) 1 p2) fun M10 =>
    wl3 (fun (v11 : Int64) (v12 : Int32) (M13 : Mem) rec14 =>
      if 52 ≤ v12 then
        some (v11, M13)
      else
      wl3 (fun (v16 : Int64) (v17 : Int32) (M18 : Mem) rec19 =>
        jn0 (
          nm (v12 + 1) fun v23 =>
          rec14 v16 v23 M18) fun j21 =>
        if v12 ≤ v17 then
          j21
        else
        (FX12_isFree t v12 p1 p2 M18).bind fun r24 =>
        if r24 = 0 then
          j21
        else
        wl3 (fun (v25 : Int64) (v26 : Int32) (M27 : Mem) rec28 =>
          jn0 (
            nm (v17 + 1) fun v32 =>
            rec19 v25 v32 M27) fun j30 =>
          if 52 ≤ v26 then
            j30
          else
          (FX12_isFree t v17 p1 p2 M27).bind fun r33 =>
          if r33 = 0 then
            j30
          else
          jn2 (fun (v34 : Int64) (M35 : Mem) =>
            nm (v26 + 1) fun v38 =>
            rec28 v34 v38 M35) fun j36 =>
          if v26 = v12 then
            j36 v25 M27
          else
          if v26 = v17 then
            j36 v25 M27
          else
          (FX12_isFree t v26 p1 p2 M27).bind fun r39 =>
          if r39 = 0 then
            j36 v25 M27
          else
          nm (sI M27 (t + 27) 2 v12) fun M41 =>
          nm (sI M41 (t + 27) 3 v17) fun M43 =>
          nm (sI M43 (t + 27) 4 v26) fun M45 =>
          bdM (FX12_countFive t 1 M45) fun r47 M46 =>
          nm (v25 + (r47.toInt64)) fun v48 =>
          j36 v48 M46) fuel v16 0 M18) fuel v11 0 M13) fuel 0 0 M10
  else
  j3
def FX12_byStarters (t : Nat) (p1 : Int32) (M : Mem) : Option (Int32 × Mem) :=
  nm (sI M t 0 0) fun M1 =>
  (FX12_heldOnes t M1).bind fun r2 =>
  jn0 (
    some ((-1), M1)) fun j3 =>
  if ¬ r2 = 4 then
    j3
  else
  (FX12_in (p1.toInt64) 0 999).bind fun r5 =>
  if ¬ r5 = 0 then
    (FX12_takeHeld t M1).bind fun M6 =>
    (FX12_layCounts t 0 M6).bind fun M7 =>
    wl3 (fun (v8 : Int32) (v9 : Int32) (M10 : Mem) rec11 =>
      if 52 ≤ v9 then
        some (v8, M10)
      else
      nm (sI M10 (t + 27) 4 v9) fun M14 =>
      (FX12_isHeld t v9 M14).bind fun r15 =>
      jn2 (fun (v16 : Int32) (M17 : Mem) =>
        nm (v8 + v16) fun v20 =>
        nm (v9 + 1) fun v21 =>
        rec11 v20 v21 M17) fun j18 =>
      jn1 (fun (M22 : Mem) =>
        j18 0 M22) fun j23 =>
      if ¬ r15 = 0 then
        j23 M14
      else
      bdM (FX12_countFive t 0 M14) fun r26 M25 =>
      if r26 < p1 then
        j23 M25
      else
      j18 1 M25) fuel 0 0 M7
  else
  j3
def FX12_bestStarter (t : Nat) (p1 : Int32) (M : Mem) : Option (Int32 × Mem) :=
  nm (sI M t 0 0) fun M1 =>
  (FX12_heldOnes t M1).bind fun r2 =>
  jn0 (
    some ((-1), M1)) fun j3 =>
  if ¬ r2 = 4 then
    j3
  else
  (FX12_in (p1.toInt64) 0 1).bind fun r5 =>
  if ¬ r5 = 0 then
    (FX12_takeHeld t M1).bind fun M6 =>
    (FX12_layCounts t 0 M6).bind fun M7 =>
    wl4 (fun (v8 : Int32) (v9 : Int32) (v10 : Int32) (M11 : Mem) rec12 =>
      if 52 ≤ v10 then
        jn1 (fun (v14 : Int32) =>
          some (v14, M11)) fun j15 =>
        if ¬ p1 = 0 then
          j15 v8
        else
        j15 v9
      else
      nm (sI M11 (t + 27) 4 v10) fun M18 =>
      (FX12_isHeld t v10 M18).bind fun r19 =>
      jn2 (fun (v20 : Int32) (M21 : Mem) =>
        jn1 (fun (v24 : Int32) =>
          jn1 (fun (v27 : Int32) =>
            nm (v10 + 1) fun v30 =>
            rec12 v27 v24 v30 M21) fun j28 =>
          if v20 ≤ v8 then
            j28 v8
          else
          j28 v20) fun j25 =>
        if v20 ≤ v8 then
          j25 v9
        else
        j25 v10) fun j22 =>
      if r19 = 0 then
        bdM (FX12_countFive t 0 M18) fun r32 M31 =>
        j22 r32 M31
      else
      j22 (-1) M18) fuel (-1) (-1) 0 M7
  else
  j3
def FX12_compare (t : Nat) (p1 : Int32) (p2 : Int32) (M : Mem) : Option (Int32 × Mem) :=
  nm (sI M t 0 0) fun M1 =>
  (FX12_isLaw t p1 M1).bind fun r2 =>
  jn0 (
    some ((-1), M1)) fun j3 =>
  if r2 = 0 then
    j3
  else
  (FX12_canCount t p2 M1).bind fun r5 =>
  if ¬ r5 = 0 then
    nm (mI M1 (t + 2) 2) fun v7 =>
    nm (sI M1 (t + 2) 2 p1) fun M9 =>
    (FX12_layCounts t 0 M9).bind fun M10 =>
    nm (sI M10 (t + 2) 2 v7) fun M12 =>
    (FX12_takeHeld t M12).bind fun M13 =>
    nm (sI M13 (t + 27) 4 p2) fun M15 =>
    bdM (FX12_countFive t 0 M15) fun r17 M16 =>
    some (r17, M16)
  else
  j3
def FX12_keepDeep (t : Nat) (p1 : Int32) (M : Mem) : Option (Mem) :=
  wl2 (fun (v1 : Int32) (M2 : Mem) rec3 =>
    if 122 ≤ v1 then
      gd (inb p1 10) <|
      nm (sI M2 (t + 33) (ix p1) (-1)) fun M6 =>
      gd (inb p1 10) <|
      nm (sI M6 (t + 36) (ix p1) (-1)) fun M9 =>
      gd (inb p1 10) <|
      nm (sI M9 (t + 35) (ix p1) 0) fun M12 =>
      some M12
    else
    gd (inb (8 + v1) 5594) <|
    gd (inb ((122 * p1) + v1) 1220) <|
    nm (sI M2 (t + 32) (ix ((122 * p1) + v1)) (mI M2 (t + 2) (ix (8 + v1)))) fun M17 =>
    nm (v1 + 1) fun v19 =>
    rec3 v19 M17) fuel 0 M
def FX12_putDeep (t : Nat) (p1 : Int32) (M : Mem) : Option (Mem) :=
  wl2 (fun (v1 : Int32) (M2 : Mem) rec3 =>
    if 122 ≤ v1 then
      some M2
    else
    gd (inb ((122 * p1) + v1) 1220) <|
    gd (inb (8 + v1) 5594) <|
    nm (sI M2 (t + 2) (ix (8 + v1)) (mI M2 (t + 32) (ix ((122 * p1) + v1)))) fun M8 =>
    nm (v1 + 1) fun v10 =>
    rec3 v10 M8) fuel 0 M
def FX12_takeBest (t : Nat) (p1 : Int32) (p2 : Int32) (M : Mem) : Option (Mem) :=
  gd (inb p1 10) <|
  jn1 (fun (v3 : Int32) =>
    jn1 (fun (v7 : Int32) =>
      gd (inb p1 10) <|
      nm (sI M (t + 36) (ix p1) v7) fun M10 =>
      jn1 (fun (v13 : Int32) =>
        gd (inb p1 10) <|
        nm (sI M10 (t + 35) (ix p1) v13) fun M16 =>
        some M16) fun j14 =>
      if v3 = 0 then
        gd (inb p1 10) <|
        j14 (mI M10 (t + 35) (ix p1))
      else
      j14 p2) fun j8 =>
    if v3 = 0 then
      gd (inb p1 10) <|
      j8 (mI M (t + 36) (ix p1))
    else
    gd (inb p1 10) <|
    j8 (mI M (t + 33) (ix p1))) fun j4 =>
  jn0 (
    j4 1) fun j24 =>
  if (mI M (t + 36) (ix p1)) = (-1) then
    j24
  else
  jn0 (
    j4 0) fun j27 =>
  if ¬ (mI M (t + 2) 14) = 0 then
    gd (inb p1 10) <|
    if (mI M (t + 35) (ix p1)) ≤ p2 then
      j27
    else
    j24
  else
  gd (inb p1 10) <|
  if p2 ≤ (mI M (t + 35) (ix p1)) then
    j27
  else
  j24
def FX12_tryAll (t : Nat) (M : Mem) : Option (Mem) :=
  (FX12_keepDeep t 0 M).bind fun M1 =>
  wl2 (fun (v2 : Int32) (M3 : Mem) rec4 =>
    if v2 < 0 then
      (FX12_putDeep t 0 M3).bind fun M6 =>
      some M6
    else
    (FX12_putDeep t v2 M3).bind fun M7 =>
    nm (mI M7 (t + 2) 14) fun v9 =>
    gd (inb v2 10) <|
    nm ((mI M7 (t + 33) (ix v2)) + 1) fun v12 =>
    wl2 (fun (v13 : Int32) (M14 : Mem) rec15 =>
      jn1 (fun (M17 : Mem) =>
        jn2 (fun (v20 : Int32) (M21 : Mem) =>
          rec4 v20 M21) fun j22 =>
        jn0 (
          gd (inb v2 10) <|
          nm (mI M17 (t + 35) (ix v2)) fun v28 =>
          nm (v2 + (-1)) fun v29 =>
          if v29 < 0 then
            j22 v29 M17
          else
          (FX12_putDeep t v29 M17).bind fun M30 =>
          gd (inb v29 10) <|
          (FX12_takeBest t v29 ((mI M30 (t + 34) (ix v29)) + v28) M30).bind fun M33 =>
          j22 v29 M33) fun j24 =>
        if v9 = (-1) then
          j24
        else
        if 52 ≤ v13 then
          j24
        else
        gd (inb v2 10) <|
        nm (sI M17 (t + 33) (ix v2) v13) fun M35 =>
        bdM (FX12_playIt t v13 M35) fun r38 M37 =>
        jn1 (fun (v40 : Int32) =>
          gd (inb v2 10) <|
          nm (sI M37 (t + 34) (ix v2) v40) fun M43 =>
          nm (v2 + 1) fun v45 =>
          (FX12_keepDeep t v45 M43).bind fun M46 =>
          j22 v45 M46) fun j41 =>
        if ¬ v9 = 0 then
          j41 (-r38)
        else
        j41 r38) fun j18 =>
      if v9 = (-1) then
        j18 M14
      else
      if 52 ≤ v13 then
        j18 M14
      else
      bdM (FX12_canPlay t v13 v9 M14) fun r48 M47 =>
      if ¬ r48 = 0 then
        j18 M47
      else
      nm (v13 + 1) fun v49 =>
      rec15 v49 M47) fuel v12 M7) fuel 0 M1
def FX12_toEnd (t : Nat) (p1 : Int32) (M : Mem) : Option (Int32 × Mem) :=
  nm (sI M t 0 0) fun M1 =>
  jn0 (
    some ((-1000), M1)) fun j3 =>
  if ¬ (mI M1 (t + 2) 9) = 2 then
    j3
  else
  if (mI M1 (t + 2) 14) = (-1) then
    j3
  else
  (FX12_in (p1.toInt64) 0 1).bind fun r6 =>
  if ¬ r6 = 0 then
    (FX12_tryAll t M1).bind fun M7 =>
    if ¬ (mI M7 (t + 36) 0) = (-1) then
      jn1 (fun (v9 : Int32) =>
        some (v9, M7)) fun j10 =>
      if ¬ p1 = 1 then
        if ¬ (mI M7 (t + 2) 14) = 0 then
          j10 (-(mI M7 (t + 35) 0))
        else
        j10 (mI M7 (t + 35) 0)
      else
      j10 (mI M7 (t + 36) 0)
    else
    some ((-1000), M7)
  else
  j3
def FX12_seen (t : Nat) (p1 : Int32) (p2 : Int32) (M : Mem) : Option (Int32 × Mem) :=
  nm (sI M t 0 0) fun M1 =>
  (FX12_isCard p1).bind fun r2 =>
  jn0 (
    bdM (FX12_tell t (-1) M1) fun r6 M5 =>
    some (r6, M5)) fun j3 =>
  if r2 = 0 then
    j3
  else
  (FX12_in (p2.toInt64) 0 999).bind fun r7 =>
  if ¬ r7 = 0 then
    nm (mI M1 (t + 2) 0) fun v9 =>
    if ¬ v9 = 6 then
      gd (inb (182 + (2 * v9)) 5594) <|
      nm (sI M1 (t + 2) (ix (182 + (2 * v9))) p1) fun M11 =>
      gd (inb ((182 + (2 * v9)) + 1) 5594) <|
      nm (sI M11 (t + 2) (ix ((182 + (2 * v9)) + 1)) p2) fun M14 =>
      nm (sI M14 (t + 2) 0 ((mI M14 (t + 2) 0) + 1)) fun M17 =>
      bdM (FX12_tell t (v9 + 1) M17) fun r19 M18 =>
      some (r19, M18)
    else
    bdM (FX12_tell t (-5) M1) fun r21 M20 =>
    some (r21, M20)
  else
  j3
def FX12_forget (t : Nat) (M : Mem) : Option (Int32 × Mem) :=
  nm (sI M t 0 0) fun M1 =>
  nm (mI M1 (t + 2) 0) fun v3 =>
  nm (sI M1 (t + 2) 0 0) fun M5 =>
  some (v3, M5)
def FX12_takeFourth (t : Nat) (p1 : Int32) (M : Mem) : Option (Mem) :=
  wl3 (fun (v1 : Int32) (v2 : Int32) (M3 : Mem) rec4 =>
    if 6 ≤ v2 then
      some M3
    else
    nm (v2 + 1) fun v6 =>
    wl3 (fun (v7 : Int32) (v8 : Int32) (M9 : Mem) rec10 =>
      if 6 ≤ v8 then
        nm (v2 + 1) fun v12 =>
        rec4 v7 v12 M9
      else
      jn1 (fun (M13 : Mem) =>
        nm (v7 + 1) fun v16 =>
        nm (v8 + 1) fun v17 =>
        rec10 v16 v17 M13) fun j14 =>
      if ¬ v7 = p1 then
        j14 M9
      else
      (FX12_takeFour t v2 v8 M9).bind fun M18 =>
      j14 M18) fuel v1 v6 M3) fuel 0 0 M
def FX12_isSeen (t : Nat) (p1 : Int32) (M : Mem) : Option (Int32 × Mem) :=
  (FX12_takeFourth t p1 M).bind fun M1 =>
  wl3 (fun (v2 : Int32) (v3 : Int32) (M4 : Mem) rec5 =>
    jn0 (
      gd (isB v2) <|
      some (v2, M4)) fun j8 =>
    if (mI M4 (t + 2) 0) ≤ v3 then
      j8
    else
    if v2 = 0 then
      j8
    else
    gd (inb (182 + (2 * v3)) 5594) <|
    nm (sI M4 (t + 27) 4 (mI M4 (t + 2) (ix (182 + (2 * v3))))) fun M14 =>
    (FX12_isHeld t (mI M14 (t + 27) 4) M14).bind fun r16 =>
    jn2 (fun (v17 : Int32) (M18 : Mem) =>
      nm (v3 + 1) fun v21 =>
      rec5 v17 v21 M18) fun j19 =>
    jn1 (fun (M22 : Mem) =>
      j19 0 M22) fun j23 =>
    if ¬ r16 = 0 then
      j23 M14
    else
    bdM (FX12_countFive t 0 M14) fun r26 M25 =>
    gd (inb ((182 + (2 * v3)) + 1) 5594) <|
    if ¬ r26 = (mI M25 (t + 2) (ix ((182 + (2 * v3)) + 1))) then
      j23 M25
    else
    j19 1 M25) fuel 1 0 M1
def FX12_thatCanBe (t : Nat) (M : Mem) : Option (Int32 × Mem) :=
  bdM (FX12_laySix t M) fun r2 M1 =>
  (FX12_layCounts t 0 M1).bind fun M3 =>
  wl3 (fun (v4 : Int32) (v5 : Int32) (M6 : Mem) rec7 =>
    if 15 ≤ v5 then
      some (v4, M6)
    else
    bdM (FX12_isSeen t v5 M6) fun r10 M9 =>
    jn1 (fun (v11 : Int32) =>
      nm (v4 ||| v11) fun v14 =>
      nm (v5 + 1) fun v15 =>
      rec7 v14 v15 M9) fun j12 =>
    if r10 = 0 then
      j12 0
    else
    j12 (1 <<< (v5 &&& 31))) fuel 0 0 M3
def FX12_canBe (t : Nat) (M : Mem) : Option (Int32 × Mem) :=
  nm (sI M t 0 0) fun M1 =>
  (FX12_heldOnes t M1).bind fun r2 =>
  jn2 (fun (v3 : Int32) (M4 : Mem) =>
    some (v3, M4)) fun j5 =>
  if ¬ r2 = 6 then
    j5 (-1) M1
  else
  bdM (FX12_thatCanBe t M1) fun r8 M7 =>
  j5 r8 M7
def FX12_mostAlike (t : Nat) (p1 : Int32) (p2 : Int32) (M : Mem) : Option (Int32 × Mem) :=
  wl2 (fun (v1 : Int32) (M2 : Mem) rec3 =>
    if 15 ≤ v1 then
      wl2 (fun (v5 : Int32) (v6 : Int32) rec7 =>
        if 15 ≤ v6 then
          some (v5, M2)
        else
        wl2 (fun (v9 : Int32) (v10 : Int32) rec11 =>
          if 15 ≤ v10 then
            jn1 (fun (v13 : Int32) =>
              nm (v6 + 1) fun v16 =>
              rec7 v13 v16) fun j14 =>
            if v9 ≤ v5 then
              j14 v5
            else
            j14 v9
          else
          gd (inb v6 15) <|
          jn1 (fun (v19 : Int32) =>
            nm (v9 + v19) fun v22 =>
            nm (v10 + 1) fun v23 =>
            rec11 v22 v23) fun j20 =>
          jn0 (
            j20 0) fun j24 =>
          if (mI M2 (t + 37) (ix v6)) = (-1) then
            j24
          else
          gd (inb v10 15) <|
          gd (inb v6 15) <|
          if ¬ (mI M2 (t + 37) (ix v10)) = (mI M2 (t + 37) (ix v6)) then
            j24
          else
          j20 1) fuel 0 0) fuel 0 0
    else
    (FX12_takeFourth t v1 M2).bind fun M30 =>
    nm (sI M30 (t + 27) 4 p2) fun M32 =>
    (FX12_is p1 v1).bind fun r34 =>
    jn2 (fun (v35 : Int32) (M36 : Mem) =>
      gd (inb v1 15) <|
      nm (sI M36 (t + 37) (ix v1) v35) fun M39 =>
      nm (v1 + 1) fun v41 =>
      rec3 v41 M39) fun j37 =>
    if r34 = 0 then
      j37 (-1) M32
    else
    bdM (FX12_countFive t 0 M32) fun r43 M42 =>
    j37 r43 M42) fuel 0 M
def FX12_ask (t : Nat) (p1 : Int32) (M : Mem) : Option (Int32 × Mem) :=
  nm (sI M t 0 0) fun M1 =>
  (FX12_heldOnes t M1).bind fun r2 =>
  jn0 (
    some ((-1), M1)) fun j3 =>
  if ¬ r2 = 6 then
    j3
  else
  (FX12_in (p1.toInt64) 0 1).bind fun r5 =>
  if ¬ r5 = 0 then
    bdM (FX12_thatCanBe t M1) fun r7 M6 =>
    wl4 (fun (v8 : Int32) (v9 : Int32) (v10 : Int32) (M11 : Mem) rec12 =>
      jn0 (
        jn1 (fun (v16 : Int32) =>
          some (v16, M11)) fun j17 =>
        jn0 (
          j17 v9) fun j19 =>
        if v9 = (-1) then
          j19
        else
        if ¬ p1 = 0 then
          j17 v8
        else
        j19) fun j14 =>
      if 52 ≤ v10 then
        j14
      else
      if r7 = 0 then
        j14
      else
      (FX12_isHeld t v10 M11).bind fun r21 =>
      jn2 (fun (v22 : Int32) (M23 : Mem) =>
        jn1 (fun (v26 : Int32) =>
          jn1 (fun (v29 : Int32) =>
            nm (v10 + 1) fun v32 =>
            rec12 v29 v26 v32 M23) fun j30 =>
          if v8 ≤ v22 then
            j30 v8
          else
          j30 v22) fun j27 =>
        if v8 ≤ v22 then
          j27 v9
        else
        j27 v10) fun j24 =>
      if r21 = 0 then
        bdM (FX12_mostAlike t r7 v10 M11) fun r34 M33 =>
        j24 r34 M33
      else
      j24 100000000 M11) fuel 100000000 (-1) 0 M6
  else
  j3
def FX12_few (t : Nat) (p1 : Int32) (p2 : Int32) (M : Mem) : Option (Int64 × Mem) :=
  nm (sI M t 0 0) fun M1 =>
  (FX12_in (p1.toInt64) 1 20).bind fun r2 =>
  jn0 (
    some ((-1), M1)) fun j3 =>
  if r2 = 0 then
    j3
  else
  (FX12_in (p2.toInt64) 0 99).bind fun r5 =>
  if ¬ r5 = 0 then
    wl2 (fun (v6 : Int32) (M7 : Mem) rec8 =>
      if 21 ≤ v6 then
        nm (mI M7 (t + 2) 5) fun v11 =>
        wl2 (fun (v12 : Int32) (M13 : Mem) rec14 =>
          if p2 ≤ v12 then
            wl2 (fun (v16 : Int64) (v17 : Int32) rec18 =>
              if p1 ≤ v17 then
                some (v16, M13)
              else
              gd (inb v17 21) <|
              nm (v16 + (mJ M13 (t + 38) (ix v17))) fun v22 =>
              nm (v17 + 1) fun v23 =>
              rec18 v22 v23) fuel 0 0
          else
          nm (p1 - 1) fun v24 =>
          wl2 (fun (v25 : Int32) (M26 : Mem) rec27 =>
            if v25 < 0 then
              nm (v12 + 1) fun v29 =>
              rec14 v29 M26
            else
            gd (inb v25 21) <|
            nm (mJ M26 (t + 38) (ix v25)) fun v32 =>
            gd (inb v25 21) <|
            nm (sJ M26 (t + 38) (ix v25) ((v32 * ((10 - v11).toInt64)) / 10)) fun M34 =>
            gd (inb (v25 + 1) 21) <|
            gd (inb (v25 + 1) 21) <|
            nm (sJ M34 (t + 38) (ix (v25 + 1)) ((mJ M34 (t + 38) (ix (v25 + 1))) + ((v32 * (v11.toInt64)) / 10))) fun M38 =>
            nm (v25 + (-1)) fun v40 =>
            rec27 v40 M38) fuel v24 M13) fuel 0 M7
      else
      jn1 (fun (v42 : Int64) =>
        gd (inb v6 21) <|
        nm (sJ M7 (t + 38) (ix v6) v42) fun M45 =>
        nm (v6 + 1) fun v47 =>
        rec8 v47 M45) fun j43 =>
      if ¬ v6 = 0 then
        j43 0
      else
      j43 1000000000000) fuel 0 M1
  else
  j3
def FX12_readSum (t : Nat) (p1 : Int32) (M : Mem) : Option (Mem) :=
  gd (inb p1 96) <|
  nm (sI M (t + 40) (ix p1) (mI M t 23)) fun M2 =>
  jn1 (fun (M4 : Mem) =>
    gd (inb (p1 + 1) 96) <|
    nm (sI M4 (t + 40) (ix (p1 + 1)) (mI M4 t 23)) fun M8 =>
    some M8) fun j5 =>
  if ¬ (mI M2 t 19) = 0 then
    j5 M2
  else
  (FX12_readExpression t 0 M2).bind fun M10 =>
  j5 M10
def FX12_readOrder (t : Nat) (M : Mem) : Option (Mem) :=
  wl2 (fun (v1 : Int32) (v2 : Int32) rec3 =>
    if 4 ≤ v2 then
      jn1 (fun (v5 : Int32) =>
        (FX12_must t v5 M).bind fun M8 =>
        if (mI M8 t 19) = 0 then
          nm (8 * (mI M8 t 21)) fun v9 =>
          nm (sI M8 t 21 ((mI M8 t 21) + 1)) fun M10 =>
          wl2 (fun (v11 : Int32) (M12 : Mem) rec13 =>
            if 8 ≤ v11 then
              gd (inb v9 96) <|
              nm (sI M12 (t + 40) (ix v9) v1) fun M16 =>
              jn1 (fun (M18 : Mem) =>
                jn1 (fun (M21 : Mem) =>
                  gd (inb (v9 + 7) 96) <|
                  nm (sI M21 (t + 40) (ix (v9 + 7)) 1) fun M25 =>
                  jn1 (fun (M27 : Mem) =>
                    gd (inb (v9 + 5) 96) <|
                    nm (sI M27 (t + 40) (ix (v9 + 5)) (mI M27 t 23)) fun M31 =>
                    jn1 (fun (M33 : Mem) =>
                      gd (inb (v9 + 6) 96) <|
                      nm (sI M33 (t + 40) (ix (v9 + 6)) (mI M33 t 23)) fun M37 =>
                      some M37) fun j34 =>
                    if ¬ (mI M31 t 19) = 0 then
                      j34 M31
                    else
                    (FX12_isWord t 294 M31).bind fun r39 =>
                    if r39 = 0 then
                      j34 M31
                    else
                    (FX12_next t M31).bind fun M40 =>
                    (FX12_readExpression t 1 M40).bind fun M41 =>
                    j34 M41) fun j28 =>
                  if ¬ (mI M25 t 19) = 0 then
                    j28 M25
                  else
                  (FX12_isWord t 21279923 M25).bind fun r42 =>
                  if r42 = 0 then
                    j28 M25
                  else
                  (FX12_next t M25).bind fun M43 =>
                  bdM (FX12_number t 1 20 M43) fun r46 M45 =>
                  gd (inb (v9 + 7) 96) <|
                  nm (sI M45 (t + 40) (ix (v9 + 7)) r46) fun M47 =>
                  j28 M47) fun j22 =>
                jn0 (
                  jn1 (fun (M51 : Mem) =>
                    (FX12_readSum t (v9 + 3) M51).bind fun M54 =>
                    j22 M54) fun j52 =>
                  if ¬ (mI M18 t 19) = 0 then
                    j52 M18
                  else
                  (FX12_isWord t 89 M18).bind fun r55 =>
                  (FX12_must t r55 M18).bind fun M56 =>
                  j52 M56) fun j49 =>
                if v1 = 1 then
                  j49
                else
                if ¬ v1 = 2 then
                  j22 M18
                else
                j49) fun j19 =>
              if v1 = 3 then
                j19 M16
              else
              (FX12_readSum t (v9 + 1) M16).bind fun M57 =>
              j19 M57
            else
            gd (inb (v9 + v11) 96) <|
            nm (sI M12 (t + 40) (ix (v9 + v11)) 0) fun M59 =>
            nm (v11 + 1) fun v61 =>
            rec13 v61 M59) fuel 0 M10
        else
        some M8) fun j6 =>
      jn0 (
        j6 0) fun j62 =>
      if v1 = (-1) then
        j62
      else
      if 12 ≤ (mI M t 21) then
        j62
      else
      j6 1
    else
    gd (inb v2 4) <|
    (FX12_isWord t (mJ M (t + 39) (ix v2)) M).bind fun r66 =>
    jn1 (fun (v67 : Int32) =>
      nm (v2 + 1) fun v70 =>
      rec3 v67 v70) fun j68 =>
    if r66 = 0 then
      j68 v1
    else
    j68 v2) fuel (-1) 0
def FX12_sumOf (t : Nat) (p1 : Int32) (M : Mem) : Option (Int32 × Mem) :=
  jn0 (
    some ((-1), M)) fun j1 =>
  if ¬ (mI M t 65) = 0 then
    j1
  else
  gd (inb p1 96) <|
  gd (inb (p1 + 1) 96) <|
  if ¬ (mI M (t + 40) (ix p1)) = (mI M (t + 40) (ix (p1 + 1))) then
    nm (sI M t 20 1) fun M7 =>
    gd (inb p1 96) <|
    gd (inb (p1 + 1) 96) <|
    (FX12_reckonAll t (mI M7 (t + 40) (ix p1)) (mI M7 (t + 40) (ix (p1 + 1))) M7).bind fun M12 =>
    nm (sI M12 t 20 0) fun M13 =>
    gd (isB (mI M13 t 38)) <|
    nm (sI M13 t 65 (mI M13 t 38)) fun M14 =>
    some ((mJ M14 t 39).toInt32, M14)
  else
  j1
def FX12_act (t : Nat) (p1 : Int32) (p2 : Int32) (p3 : Int32) (M : Mem) : Option (Int32 × Mem) :=
  sw p1.toInt 0 [
    bdM (FX12_dealNow t p2 M) fun r4 M3 =>
    some (r4, M3),
    bdM (FX12_layNow t p2 p3 M) fun r6 M5 =>
    some (r6, M5),
    bdM (FX12_playNow t p2 p3 M) fun r8 M7 =>
    some (r8, M7)]
  (bdM (FX12_showNow t M) fun r2 M1 =>
    some (r2, M1))
def FX12_runOnce (t : Nat) (p1 : Int32) (M : Mem) : Option (Int32 × Mem) :=
  nm (sJ M (t + 19) 1 ((mI M (t + 2) 9).toInt64)) fun M3 =>
  nm (sJ M3 (t + 19) 2 ((mI M3 t 62).toInt64)) fun M5 =>
  nm (sJ M5 (t + 19) 3 ((mI M5 t 63).toInt64)) fun M7 =>
  nm (sJ M7 (t + 19) 4 ((mI M7 (t + 2) 12).toInt64)) fun M10 =>
  nm (sJ M10 (t + 19) 5 ((mI M10 (t + 2) 14).toInt64)) fun M13 =>
  nm (sI M13 t 65 0) fun M14 =>
  gd (inb (p1 + 5) 96) <|
  gd (inb (p1 + 6) 96) <|
  jn1 (fun (M19 : Mem) =>
    bdM (FX12_sumOf t (p1 + 1) M19) fun r23 M22 =>
    bdM (FX12_sumOf t (p1 + 3) M22) fun r25 M24 =>
    if (mI M24 t 65) = 0 then
      gd (inb p1 96) <|
      bdM (FX12_act t (mI M24 (t + 40) (ix p1)) r23 r25 M24) fun r29 M28 =>
      if 0 ≤ r29 then
        gd (inb p1 96) <|
        jn1 (fun (v32 : Int32) =>
          nm (sI M28 t 63 v32) fun M35 =>
          nm (sI M35 t 62 ((mI M35 t 62) + 1)) fun M36 =>
          some (0, M36)) fun j33 =>
        if ¬ (mI M28 (t + 40) (ix p1)) = 2 then
          j33 (mI M28 t 63)
        else
        j33 r29
      else
      some ((-3), M28)
    else
    some ((-3), M24)) fun j20 =>
  if (mI M14 (t + 40) (ix (p1 + 6))) ≤ (mI M14 (t + 40) (ix (p1 + 5))) then
    j20 M14
  else
  bdM (FX12_sumOf t (p1 + 5) M14) fun r38 M37 =>
  jn0 (
    some (0, M37)) fun j39 =>
  if ¬ (mI M37 t 65) = 0 then
    j39
  else
  if ¬ r38 = 0 then
    j20 M37
  else
  j39
def FX12_giveBack (t : Nat) (p1 : Int32) (M : Mem) : Option (Mem) :=
  (FX12_putBack t 17 M).bind fun M1 =>
  wl2 (fun (v2 : Int32) (M3 : Mem) rec4 =>
    if 1952 ≤ v2 then
      wl2 (fun (v6 : Int32) (M7 : Mem) rec8 =>
        if 16 ≤ v6 then
          nm (sI M7 t 8 p1) fun M10 =>
          some M10
        else
        gd (inb v6 16) <|
        gd (inb v6 16) <|
        nm (sI M7 (t + 6) (ix v6) (mI M7 (t + 8) (ix v6))) fun M14 =>
        nm (v6 + 1) fun v16 =>
        rec8 v16 M14) fuel 0 M3
    else
    gd (inb v2 1952) <|
    gd (inb v2 2196) <|
    nm (sI M3 (t + 5) (ix v2) (mI M3 (t + 7) (ix v2))) fun M20 =>
    nm (v2 + 1) fun v22 =>
    rec4 v22 M20) fuel 0 M1
def FX12_orders (t : Nat) (M : Mem) : Option (Int32 × Mem) :=
  nm (sI M t 0 0) fun M1 =>
  nm (sI M1 t 64 (-1)) fun M2 =>
  (FX12_beginText t 1 M2).bind fun M3 =>
  (FX12_readOrder t M3).bind fun M4 =>
  wl1 (fun (M5 : Mem) rec6 =>
    jn0 (
      (FX12_endText t M5).bind fun M10 =>
      if (mI M10 t 19) = 0 then
        (FX12_keepAll t 17 M10).bind fun M11 =>
        nm (mI M11 t 8) fun v12 =>
        wl2 (fun (v13 : Int32) (M14 : Mem) rec15 =>
          if 1952 ≤ v13 then
            wl2 (fun (v17 : Int32) (M18 : Mem) rec19 =>
              if 16 ≤ v17 then
                nm (sI M18 t 62 0) fun M21 =>
                nm (sI M21 t 63 (-1)) fun M22 =>
                wl2 (fun (v23 : Int32) (M24 : Mem) rec25 =>
                  if (mI M24 t 21) ≤ v23 then
                    bdM (FX12_tell t (mI M24 t 62) M24) fun r28 M27 =>
                    some (r28, M27)
                  else
                  wl2 (fun (v29 : Int32) (M30 : Mem) rec31 =>
                    gd (inb ((8 * v23) + 7) 96) <|
                    if (mI M30 (t + 40) (ix ((8 * v23) + 7))) ≤ v29 then
                      nm (v23 + 1) fun v35 =>
                      rec25 v35 M30
                    else
                    bdM (FX12_runOnce t (8 * v23) M30) fun r37 M36 =>
                    if 0 ≤ r37 then
                      nm (v29 + 1) fun v38 =>
                      rec31 v38 M36
                    else
                    (FX12_giveBack t v12 M36).bind fun M39 =>
                    nm (sI M39 t 64 v23) fun M40 =>
                    bdM (FX12_tell t (-3) M40) fun r42 M41 =>
                    some (r42, M41)) fuel 0 M24) fuel 0 M22
              else
              gd (inb v17 16) <|
              gd (inb v17 16) <|
              nm (sI M18 (t + 8) (ix v17) (mI M18 (t + 6) (ix v17))) fun M46 =>
              nm (v17 + 1) fun v48 =>
              rec19 v48 M46) fuel 0 M14
          else
          gd (inb v13 2196) <|
          gd (inb v13 1952) <|
          nm (sI M14 (t + 7) (ix v13) (mI M14 (t + 5) (ix v13))) fun M52 =>
          nm (v13 + 1) fun v54 =>
          rec15 v54 M52) fuel 0 M11
      else
      bdM (FX12_tell t (-6) M10) fun r56 M55 =>
      some (r56, M55)) fun j8 =>
    if ¬ (mI M5 t 19) = 0 then
      j8
    else
    (FX12_isSign t 59 M5).bind fun r57 =>
    if r57 = 0 then
      j8
    else
    (FX12_next t M5).bind fun M58 =>
    (FX12_readOrder t M58).bind fun M59 =>
    rec6 M59) fuel M4
def FX12_stopped (t : Nat) (M : Mem) : Option (Int32 × Mem) :=
  nm (sI M t 0 0) fun M1 =>
  some ((mI M1 t 64), M1)
def FX12_layHighest (t : Nat) (p1 : Int32) (M : Mem) : Option (Mem) :=
  (FX12_cardOf t p1 5 M).bind fun r1 =>
  (FX12_layIt t r1 M).bind fun M2 =>
  (FX12_cardOf t p1 4 M2).bind fun r3 =>
  (FX12_layIt t r3 M2).bind fun M4 =>
  some M4
def FX12_playLowest (t : Nat) (M : Mem) : Option (Mem) :=
  wl1 (fun (M1 : Mem) rec2 =>
    if (mI M1 (t + 2) 14) = (-1) then
      some M1
    else
    wl2 (fun (v5 : Int32) (M6 : Mem) rec7 =>
      bdM (FX12_canPlay t v5 (mI M6 (t + 2) 14) M6) fun r11 M10 =>
      if ¬ r11 = 0 then
        bdM (FX12_playIt t v5 M10) fun r13 M12 =>
        rec2 M12
      else
      nm (v5 + 1) fun v14 =>
      rec7 v14 M10) fuel 0 M1) fuel M
def FX12_rubbers (t : Nat) (p1 : Int32) (p2 : Int32) (M : Mem) : Option (Int32 × Mem) :=
  nm (sI M t 0 0) fun M1 =>
  (FX12_in (p1.toInt64) 0 1000000).bind fun r2 =>
  jn0 (
    bdM (FX12_tell t (-1) M1) fun r6 M5 =>
    some (r6, M5)) fun j3 =>
  if r2 = 0 then
    j3
  else
  (FX12_in (p2.toInt64) 1 20).bind fun r7 =>
  if ¬ r7 = 0 then
    (FX12_keepAll t 16 M1).bind fun M8 =>
    nm (sJ M8 t 50 (p1.toInt64)) fun M9 =>
    nm ((mI M9 (t + 2) 16) + (mI M9 (t + 2) 17)) fun v12 =>
    wl2 (fun (v13 : Int32) (M14 : Mem) rec15 =>
      jn0 (
        nm (((mI M14 (t + 2) 16) + (mI M14 (t + 2) 17)) - v12) fun v21 =>
        nm (sI M14 (t + 41) 0 (mI M14 (t + 2) 16)) fun M24 =>
        nm (sI M24 (t + 41) 1 (mI M24 (t + 2) 17)) fun M27 =>
        nm (sI M27 t 67 1) fun M28 =>
        (FX12_putBack t 16 M28).bind fun M29 =>
        bdM (FX12_tell t v21 M29) fun r31 M30 =>
        some (r31, M30)) fun j17 =>
      if p2 ≤ v13 then
        j17
      else
      if 999 ≤ (mI M14 (t + 2) 8) then
        j17
      else
      (FX12_dealIt t M14).bind fun M33 =>
      (FX12_layHighest t (1 - (mI M33 (t + 2) 10)) M33).bind fun M35 =>
      (FX12_layHighest t (mI M35 (t + 2) 10) M35).bind fun M37 =>
      (FX12_playLowest t M37).bind fun M38 =>
      bdM (FX12_showIt t M38) fun r40 M39 =>
      nm (v13 + 1) fun v41 =>
      rec15 v41 M39) fuel 0 M9
  else
  j3
def FX12_drawn (t : Nat) (p1 : Int32) (M : Mem) : Option (Int32 × Mem) :=
  nm (sI M t 0 0) fun M1 =>
  jn1 (fun (v2 : Int32) =>
    some (v2, M1)) fun j3 =>
  jn0 (
    j3 (-1)) fun j5 =>
  if (mI M1 t 67) = 0 then
    j5
  else
  (FX12_isPlayer p1).bind fun r7 =>
  if ¬ r7 = 0 then
    gd (inb p1 2) <|
    j3 (mI M1 (t + 41) (ix p1))
  else
  j5
def FX12_count (t : Nat) (p1 : Int32) (M : Mem) : Option (Int32 × Mem) :=
  nm (sI M t 0 0) fun M1 =>
  sw p1.toInt 0 [
    some ((mI M1 (t + 2) 9), M1),
    some ((mI M1 (t + 2) 10), M1),
    some ((mI M1 (t + 2) 11), M1),
    (FX12_cardsAt t 2 M1).bind fun r11 =>
    some (r11, M1),
    some ((mI M1 (t + 2) 12), M1),
    some ((mI M1 (t + 2) 13), M1),
    some ((mI M1 (t + 2) 14), M1),
    some ((mI M1 (t + 2) 15), M1),
    (FX12_heldOnes t M1).bind fun r16 =>
    some (r16, M1),
    some ((mI M1 (t + 2) 0), M1),
    some ((mI M1 (t + 2) 1), M1),
    some ((mI M1 t 8), M1),
    some ((mI M1 t 13), M1),
    some ((mI M1 (t + 1) 1), M1),
    some ((mI M1 (t + 1) 2), M1),
    some ((mI M1 (t + 1) 3), M1),
    some ((mI M1 (t + 1) 5), M1),
    some ((mI M1 (t + 1) 6), M1),
    some ((mI M1 (t + 2) 2), M1),
    some ((mI M1 (t + 2) 8), M1)]
  ((FX12_in (p1.toInt64) 20 22).bind fun r2 =>
    jn1 (fun (v3 : Int32) =>
      some (v3, M1)) fun j4 =>
    if r2 = 0 then
      j4 (-1)
    else
    gd (inb ((4 + p1) - 19) 5594) <|
    j4 (mI M1 (t + 2) (ix ((4 + p1) - 19))))
def FX12_status (t : Nat) (M : Mem) : Option (Int32 × Mem) :=
  nm (sI M t 0 0) fun M1 =>
  some ((mI M1 t 1), M1)
def FX11_few (t : Nat) (p1 : Int32) (p2 : Int32) (a : Nat) (M : Mem) : Option (Int64 × List (Nat × Nat) × Mem) :=
  jn0 (
    some ((-1), [], M)) fun j1 =>
  if p1 < 1 then
    j1
  else
  if 20 < p1 then
    j1
  else
  if p2 < 0 then
    j1
  else
  if p2 ≤ 99 then
    (FX6_term (t + 1) 1 M).bind fun r4 =>
    nm (put M a 1 Z0) fun M5 =>
    nm (sJ M5 a 0 1000000000000) fun M6 =>
    wl2 (fun (v7 : Int32) (M8 : Mem) rec9 =>
      if p2 ≤ v7 then
        wl2 (fun (v11 : Int64) (v12 : Int32) rec13 =>
          if p1 ≤ v12 then
            some (v11, [(21, 20)], M8)
          else
          gd (inb v12 20) <|
          nm (v11 + (mJ M8 a (ix v12))) fun v16 =>
          nm (v12 + 1) fun v17 =>
          rec13 v16 v17) fuel 0 0
      else
      nm (p1 - 1) fun v18 =>
      wl2 (fun (v19 : Int32) (M20 : Mem) rec21 =>
        if v19 < 0 then
          nm (v7 + 1) fun v23 =>
          rec9 v23 M20
        else
        jn1 (fun (v24 : Int64) =>
          gd (inb v19 20) <|
          gd (inb v19 20) <|
          nm (sJ M20 a (ix v19) ((((mJ M20 a (ix v19)) * ((10 - r4).toInt64)) / 10) + v24)) fun M28 =>
          nm (v19 + (-1)) fun v30 =>
          rec21 v30 M28) fun j25 =>
        if ¬ v19 = 0 then
          gd (inb (v19 - 1) 20) <|
          j25 (((mJ M20 a (ix (v19 - 1))) * (r4.toInt64)) / 10)
        else
        j25 0) fuel v18 M8) fuel 0 M6
  else
  j1
def txU (M : Mem) (d : Nat) : Mem := (fun o k => if o = 0 then (if k = 2 ∨ k = 3 ∨ k = 4 then mI M d k else 0) else if o = 1 then (if k < ix (mI M d 2) then mI M (d + 1) k else 0) else (if k < ix (mI M d 3 * 6) then mI M (d + 2) k else 0), fun _ _ => 0, fun _ _ => none, fun o => if o = 0 then 0 else if o = 1 then ix (mI M d 2) else ix (mI M d 3 * 6))
def txok (M : Mem) (d : Nat) : Bool := decide (mN M (d + 1) = 800) && (decide (mN M (d + 2) = 72) && (!decide (mI M d 2 < 0) && (decide (ix (mI M d 2) ≤ 800) && (!decide (mI M d 3 * 6 < 0) && (decide (ix (mI M d 3 * 6) ≤ 72) && isB (mI M d 4))))))
def FX11_law (t : Nat) (a : Nat) (M : Mem) : Option (Int32 × List (Nat × Nat) × Mem) :=
  if (mI M (t + 1) 7) < 6 then
    bdM (FX5_readText (t + 171) 1 M) fun r4 M3 =>
    if ¬ r4 = 0 then
      gd (txok M3 ((t + 171) + 2)) <|
      nm (put M3 a 3 (txU M3 ((t + 171) + 2))) fun M10 =>
      gd (inb (mI M3 (t + 1) 7) 6) <|
      nm (sR M10 ((t + 1) + 7) (ix (mI M3 (t + 1) 7)) (some a)) fun M12 =>
      nm (sI M12 (t + 1) 7 ((mI M12 (t + 1) 7) + 1)) fun M15 =>
      bdM (FX11_grant t ((mI M15 (t + 1) 7) - 1) M15) fun r18 M17 =>
      some (r18, [(9, 0), (23, 0), (23, 0)], M17)
    else
    bdM (FX11_refuse t (-6) M3) fun r20 M19 =>
    some (r20, [], M19)
  else
  nm (sI M (t + 171) 2 0) fun M22 =>
  bdM (FX11_refuse t (-5) M22) fun r24 M23 =>
  some (r24, [], M23)
def nT (T a : Nat) (G : List (Nat × Nat)) : Nat := match G with
  | [] => T
  | _ => a + G.length
def St_card (Inv : Nat → Nat → Nat → Mem → Prop) : Prop := ∀ (t u T : Nat) (M : Mem) (p1 p2 : Int32), Inv t u T M → ∃ v M1 M2, FX11_card t p1 p2 M = some (v, M1) ∧ FX12_card u p1 p2 M1 = some (v, M2) ∧ Inv t u T M2
def St_hand (Inv : Nat → Nat → Nat → Mem → Prop) : Prop := ∀ (t u T : Nat) (M : Mem) (p1 p2 : Int32), Inv t u T M → ∃ v M2, FX11_hand t p1 p2 M = some v ∧ FX12_hand u p1 p2 M = some (v, M2) ∧ Inv t u T M2
def St_terms (Inv : Nat → Nat → Nat → Mem → Prop) : Prop := ∀ (t u T : Nat) (M : Mem) (p1 p2 : Int32), Inv t u T M → ∃ v M1 M2, FX11_terms t p1 p2 M = some (v, M1) ∧ FX12_terms u p1 p2 M1 = some (v, M2) ∧ Inv t u T M2
def St_feed (Inv : Nat → Nat → Nat → Mem → Prop) : Prop := ∀ (t u T : Nat) (M : Mem) (p1 p2 p3 p4 p5 : Int32), Inv t u T M → ∃ v M1 M2, FX11_feed t p1 p2 p3 p4 p5 M = some (v, M1) ∧ FX12_feed u p1 p2 p3 p4 p5 M1 = some (v, M2) ∧ Inv t u T M2
def St_end (Inv : Nat → Nat → Nat → Mem → Prop) : Prop := ∀ (t u T : Nat) (M : Mem) (p1 : Int32), Inv t u T M → ∃ v M1 M2, FX11_end t p1 M = some (v, M1) ∧ FX12_end u p1 M1 = some (v, M2) ∧ Inv t u T M2
def St_row (Inv : Nat → Nat → Nat → Mem → Prop) : Prop := ∀ (t u T : Nat) (M : Mem), Inv t u T M → ∃ v M1 M2, FX11_row t M = some (v, M1) ∧ FX12_row u M1 = some (v, M2) ∧ Inv t u T M2
def St_jokers (Inv : Nat → Nat → Nat → Mem → Prop) : Prop := ∀ (t u T : Nat) (M : Mem), Inv t u T M → ∃ v M2, FX11_jokers t M = some v ∧ FX12_jokers u M = some (v, M2) ∧ Inv t u T M2
def St_law (Inv : Nat → Nat → Nat → Mem → Prop) : Prop := ∀ (t u T : Nat) (M : Mem) (a : Nat), Inv t u T M → T ≤ a → ∃ v G M1 M2, FX11_law t a M = some (v, G, M1) ∧ FX12_law u M1 = some (v, M2) ∧ Inv t u (nT T a G) M2
def St_orders (Inv : Nat → Nat → Nat → Mem → Prop) : Prop := ∀ (t u T : Nat) (M : Mem), Inv t u T M → ∃ v M1 M2, FX11_orders t M = some (v, M1) ∧ FX12_orders u M1 = some (v, M2) ∧ Inv t u T M2
def St_fault (Inv : Nat → Nat → Nat → Mem → Prop) : Prop := ∀ (t u T : Nat) (M : Mem), Inv t u T M → ∃ v M2, FX11_fault t M = some v ∧ FX12_fault u M = some (v, M2) ∧ Inv t u T M2
def St_stopped (Inv : Nat → Nat → Nat → Mem → Prop) : Prop := ∀ (t u T : Nat) (M : Mem), Inv t u T M → ∃ v M2, FX11_stopped t M = some v ∧ FX12_stopped u M = some (v, M2) ∧ Inv t u T M2
def St_force (Inv : Nat → Nat → Nat → Mem → Prop) : Prop := ∀ (t u T : Nat) (M : Mem) (p1 : Int32), Inv t u T M → ∃ v M1 M2, FX11_force t p1 M = some (v, M1) ∧ FX12_force u p1 M1 = some (v, M2) ∧ Inv t u T M2
def St_deal (Inv : Nat → Nat → Nat → Mem → Prop) : Prop := ∀ (t u T : Nat) (M : Mem) (p1 : Int32), Inv t u T M → ∃ v M1 M2, FX11_deal t p1 M = some (v, M1) ∧ FX12_deal u p1 M1 = some (v, M2) ∧ Inv t u T M2
def St_lay (Inv : Nat → Nat → Nat → Mem → Prop) : Prop := ∀ (t u T : Nat) (M : Mem) (p1 p2 : Int32), Inv t u T M → ∃ v M1 M2, FX11_lay t p1 p2 M = some (v, M1) ∧ FX12_lay u p1 p2 M1 = some (v, M2) ∧ Inv t u T M2
def St_play (Inv : Nat → Nat → Nat → Mem → Prop) : Prop := ∀ (t u T : Nat) (M : Mem) (p1 p2 : Int32), Inv t u T M → ∃ v M1 M2, FX11_play t p1 p2 M = some (v, M1) ∧ FX12_play u p1 p2 M1 = some (v, M2) ∧ Inv t u T M2
def St_show (Inv : Nat → Nat → Nat → Mem → Prop) : Prop := ∀ (t u T : Nat) (M : Mem), Inv t u T M → ∃ v M1 M2, FX11_show t M = some (v, M1) ∧ FX12_show u M1 = some (v, M2) ∧ Inv t u T M2
def St_undo (Inv : Nat → Nat → Nat → Mem → Prop) : Prop := ∀ (t u T : Nat) (M : Mem), Inv t u T M → ∃ v M1 M2, FX11_undo t M = some (v, M1) ∧ FX12_undo u M1 = some (v, M2) ∧ Inv t u T M2
def St_hold (Inv : Nat → Nat → Nat → Mem → Prop) : Prop := ∀ (t u T : Nat) (M : Mem) (p1 : Int32), Inv t u T M → ∃ v M1 M2, FX11_hold t p1 M = some (v, M1) ∧ FX12_hold u p1 M1 = some (v, M2) ∧ Inv t u T M2
def St_drop (Inv : Nat → Nat → Nat → Mem → Prop) : Prop := ∀ (t u T : Nat) (M : Mem), Inv t u T M → ∃ v M1 M2, FX11_drop t M = some (v, M1) ∧ FX12_drop u M1 = some (v, M2) ∧ Inv t u T M2
def St_counted (Inv : Nat → Nat → Nat → Mem → Prop) : Prop := ∀ (t u T : Nat) (M : Mem) (p1 p2 p3 : Int32), Inv t u T M → ∃ v M1 M2, FX11_counted t p1 p2 p3 M = some (v, M1) ∧ FX12_counted u p1 p2 p3 M1 = some (v, M2) ∧ Inv t u T M2
def St_kept (Inv : Nat → Nat → Nat → Mem → Prop) : Prop := ∀ (t u T : Nat) (M : Mem) (p1 : Int32), Inv t u T M → ∃ v M1 M2, FX11_kept t p1 M = some (v, M1) ∧ FX12_kept u p1 M1 = some (v, M2) ∧ Inv t u T M2
def St_cribOf (Inv : Nat → Nat → Nat → Mem → Prop) : Prop := ∀ (t u T : Nat) (M : Mem) (p1 p2 : Int32), Inv t u T M → ∃ v M1 M2, FX11_cribOf t p1 p2 M = some (v, M1) ∧ FX12_cribOf u p1 p2 M1 = some (v, M2) ∧ Inv t u T M2
def St_byStarters (Inv : Nat → Nat → Nat → Mem → Prop) : Prop := ∀ (t u T : Nat) (M : Mem) (p1 : Int32), Inv t u T M → ∃ v M1 M2, FX11_byStarters t p1 M = some (v, M1) ∧ FX12_byStarters u p1 M1 = some (v, M2) ∧ Inv t u T M2
def St_bestStarter (Inv : Nat → Nat → Nat → Mem → Prop) : Prop := ∀ (t u T : Nat) (M : Mem) (p1 : Int32), Inv t u T M → ∃ v M1 M2, FX11_bestStarter t p1 M = some (v, M1) ∧ FX12_bestStarter u p1 M1 = some (v, M2) ∧ Inv t u T M2
def St_toEnd (Inv : Nat → Nat → Nat → Mem → Prop) : Prop := ∀ (t u T : Nat) (M : Mem) (p1 : Int32), Inv t u T M → ∃ v M1 M2, FX11_toEnd t p1 M = some (v, M1) ∧ FX12_toEnd u p1 M1 = some (v, M2) ∧ Inv t u T M2
def St_seen (Inv : Nat → Nat → Nat → Mem → Prop) : Prop := ∀ (t u T : Nat) (M : Mem) (p1 p2 : Int32), Inv t u T M → ∃ v M1 M2, FX11_seen t p1 p2 M = some (v, M1) ∧ FX12_seen u p1 p2 M1 = some (v, M2) ∧ Inv t u T M2
def St_forget (Inv : Nat → Nat → Nat → Mem → Prop) : Prop := ∀ (t u T : Nat) (M : Mem), Inv t u T M → ∃ v M1 M2, FX11_forget t M = some (v, M1) ∧ FX12_forget u M1 = some (v, M2) ∧ Inv t u T M2
def St_canBe (Inv : Nat → Nat → Nat → Mem → Prop) : Prop := ∀ (t u T : Nat) (M : Mem), Inv t u T M → ∃ v M1 M2, FX11_canBe t M = some (v, M1) ∧ FX12_canBe u M1 = some (v, M2) ∧ Inv t u T M2
def St_ask (Inv : Nat → Nat → Nat → Mem → Prop) : Prop := ∀ (t u T : Nat) (M : Mem) (p1 : Int32), Inv t u T M → ∃ v M1 M2, FX11_ask t p1 M = some (v, M1) ∧ FX12_ask u p1 M1 = some (v, M2) ∧ Inv t u T M2
def St_few (Inv : Nat → Nat → Nat → Mem → Prop) : Prop := ∀ (t u T : Nat) (M : Mem) (p1 p2 : Int32) (a : Nat), Inv t u T M → T ≤ a → ∃ v G M1 M2, FX11_few t p1 p2 a M = some (v, G, M1) ∧ FX12_few u p1 p2 M1 = some (v, M2) ∧ Inv t u (nT T a G) M2
def St_compare (Inv : Nat → Nat → Nat → Mem → Prop) : Prop := ∀ (t u T : Nat) (M : Mem) (p1 p2 : Int32), Inv t u T M → ∃ v M1 M2, FX11_compare t p1 p2 M = some (v, M1) ∧ FX12_compare u p1 p2 M1 = some (v, M2) ∧ Inv t u T M2
def St_rubbers (Inv : Nat → Nat → Nat → Mem → Prop) : Prop := ∀ (t u T : Nat) (M : Mem) (p1 p2 : Int32), Inv t u T M → ∃ v M1 M2, FX11_rubbers t p1 p2 M = some (v, M1) ∧ FX12_rubbers u p1 p2 M1 = some (v, M2) ∧ Inv t u T M2
def St_drawn (Inv : Nat → Nat → Nat → Mem → Prop) : Prop := ∀ (t u T : Nat) (M : Mem) (p1 : Int32), Inv t u T M → ∃ v M2, FX11_drawn t p1 M = some v ∧ FX12_drawn u p1 M = some (v, M2) ∧ Inv t u T M2
def St_image (Inv : Nat → Nat → Nat → Mem → Prop) : Prop := ∀ (t u T : Nat) (M : Mem) (p1 : Int32), Inv t u T M → ∃ v M1 M2, FX11_image t p1 M = some (v, M1) ∧ FX12_image u p1 M1 = some (v, M2) ∧ Inv t u T M2
def St_back (Inv : Nat → Nat → Nat → Mem → Prop) : Prop := ∀ (t u T : Nat) (M : Mem) (p1 : Int32), Inv t u T M → ∃ v M1 M2, FX11_back t p1 M = some (v, M1) ∧ FX12_back u p1 M1 = some (v, M2) ∧ Inv t u T M2
def St_count (Inv : Nat → Nat → Nat → Mem → Prop) : Prop := ∀ (t u T : Nat) (M : Mem) (p1 : Int32), Inv t u T M → ∃ v M2, FX11_count t p1 M = some v ∧ FX12_count u p1 M = some (v, M2) ∧ Inv t u T M2
def St_status (Inv : Nat → Nat → Nat → Mem → Prop) : Prop := ∀ (t u T : Nat) (M : Mem), Inv t u T M → ∃ v M2, FX11_status t M = some v ∧ FX12_status u M = some (v, M2) ∧ Inv t u T M2
def StAll (Inv : Nat → Nat → Nat → Mem → Prop) : Prop := St_card Inv ∧ St_hand Inv ∧ St_terms Inv ∧ St_feed Inv ∧ St_end Inv ∧ St_row Inv ∧ St_jokers Inv ∧ St_law Inv ∧ St_orders Inv ∧ St_fault Inv ∧ St_stopped Inv ∧ St_force Inv ∧ St_deal Inv ∧ St_lay Inv ∧ St_play Inv ∧ St_show Inv ∧ St_undo Inv ∧ St_hold Inv ∧ St_drop Inv ∧ St_counted Inv ∧ St_kept Inv ∧ St_cribOf Inv ∧ St_byStarters Inv ∧ St_bestStarter Inv ∧ St_toEnd Inv ∧ St_seen Inv ∧ St_forget Inv ∧ St_canBe Inv ∧ St_ask Inv ∧ St_few Inv ∧ St_compare Inv ∧ St_rubbers Inv ∧ St_drawn Inv ∧ St_image Inv ∧ St_back Inv ∧ St_count Inv ∧ St_status Inv
