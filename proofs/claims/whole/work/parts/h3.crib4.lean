/-! ===== threes of cards: all together ===== -/
theorem g3_sm {w : Nat → Nat} {G : Nat → Nat → Nat → Nat → Nat} {n : Nat} : ∀ m, g3 w (fun a b c => sm (fun i => G i a b c) m) n = sm (fun i => g3 w (G i) n) m
  | 0 => sm_0 (fun a _ => by show w a * g2 w (fun _ _ => 0) a = 0; rw [g2_0, Nat.mul_zero])
  | m + 1 => by rw [sm_s, ← g3_sm m, ← g3_add]; rfl
theorem g2_sm {w : Nat → Nat} {G : Nat → Nat → Nat → Nat} {n : Nat} : ∀ m, g2 w (fun a b => sm (fun i => G i a b) m) n = sm (fun i => g2 w (G i) n) m
  | 0 => g2_0
  | m + 1 => by rw [sm_s, ← g2_sm m, ← g2_add]; rfl
theorem g1_sm {w : Nat → Nat} {G : Nat → Nat → Nat} {n : Nat} : ∀ m, g1 w (fun a => sm (fun i => G i a) m) n = sm (fun i => g1 w (G i) n) m
  | 0 => g1_0
  | m + 1 => by rw [sm_s, ← g1_sm m, ← g1_add]; rfl
theorem pt13 {g : Nat → Nat} {r : Nat} (h : r < 13) : sm (fun i => (if r = i then 1 else 0) * g i) 13 = g r := by
  rw [sm_cg (h := fun i => if i = r then g r else 0) (fun i _ => by
    by_cases z : i = r
    · rw [if_pos z, if_pos z.symm, z, Nat.one_mul]
    · rw [if_neg z, if_neg (fun q => z q.symm), Nat.zero_mul]), sm_pt h]
theorem rns_g3 {w R : Nat → Nat} {x y : Nat} (h : one01 w) : g3 w (fun a b c => rns R (f5 x y a b c)) 52 = rwS w R x y := by
  have e : g3 w (fun a b c => rns R (f5 x y a b c)) 52 = g3 w (fun a b c => sm (fun i => sm (fun j => sm (fun k => rkH R x y i j k * (ir k a * ir j b * ir i c)) 13) 13) 13) 52 := g3_cg (fun a b c hc hb ha => by
    rw [rns_H]
    have q1 : ∀ i j, sm (fun k => rkH R x y i j k * (ir k a * ir j b * ir i c)) 13 = rkH R x y i j (a / 4) * (ir j b * ir i c) := fun i j => by
      rw [← pt13 (g := fun k => rkH R x y i j k * (ir j b * ir i c)) (r := a / 4) (by omega)]
      exact sm_cg (fun k _ => by unfold ir; grind)
    have q2 : ∀ i, sm (fun j => sm (fun k => rkH R x y i j k * (ir k a * ir j b * ir i c)) 13) 13 = rkH R x y i (b / 4) (a / 4) * ir i c := fun i => by
      rw [← pt13 (g := fun j => rkH R x y i j (a / 4) * ir i c) (r := b / 4) (by omega)]
      exact sm_cg (fun j _ => by rw [q1]; show _ = (if b / 4 = j then 1 else 0) * _; unfold ir; grind)
    rw [sm_cg (fun i _ => q2 i), ← rkH_sw, ← pt13 (g := fun i => rkH R x y i (b / 4) (a / 4)) (r := c / 4) (by omega)]
    exact sm_cg (fun i _ => by unfold ir; grind))
  rw [e, g3_sm]
  unfold rwS
  refine sm_cg (fun i _ => ?_)
  rw [g3_sm]
  refine sm_cg (fun j _ => ?_)
  rw [g3_sm]
  refine sm_cg (fun k _ => ?_)
  rw [g3_mul, g3_cnt h]
  by_cases z : i ≤ j ∧ j ≤ k
  · rw [if_pos z, if_pos z, Nat.mul_comm]
  · rw [if_neg z, if_neg z, Nat.mul_zero]
def sut (w : Nat → Nat) (s n : Nat) : Nat := g1 w (fun a => if a % 4 = s then 1 else 0) n
def flw (w L : Nat → Nat) (x y : Nat) : Nat := if y % 4 = x % 4 then c3 (sut w (x % 4) 52) * L (2 * (x % 4) + 1) else 0
theorem fls_f5 {L : Nat → Nat} {x y a b c : Nat} : fls L 1 (f5 x y a b c) = (if y % 4 = x % 4 then L (2 * (x % 4) + 1) else 0) * ((if a % 4 = x % 4 then 1 else 0) * (if b % 4 = x % 4 then 1 else 0) * (if c % 4 = x % 4 then 1 else 0)) := by
  show (if y % 4 = x % 4 ∧ a % 4 = x % 4 ∧ b % 4 = x % 4 then (if c % 4 = x % 4 then L (2 * (x % 4) + 1) else if (1 : Nat) = 1 then 0 else L (2 * (x % 4))) else 0) = _
  by_cases z1 : y % 4 = x % 4
  · by_cases z2 : a % 4 = x % 4
    · by_cases z3 : b % 4 = x % 4
      · rw [if_pos ⟨z1, z2, z3⟩, if_pos z1, if_pos z2, if_pos z3]
        by_cases z4 : c % 4 = x % 4
        · rw [if_pos z4, if_pos z4]; omega
        · rw [if_neg z4, if_neg z4, if_pos rfl]; simp
      · rw [if_neg (fun q => z3 q.2.2), if_neg z3]; simp
    · rw [if_neg (fun q => z2 q.2.1), if_neg z2]; simp
  · rw [if_neg (fun q => z1 q.1), if_neg z1]; simp
theorem g3_ppp {w p : Nat → Nat} {n : Nat} (h : one01 (fun a => w a * p a)) : g3 w (fun a b c => p a * p b * p c) n = c3 (g1 w p n) := by
  show _ = c3 (sm (fun a => w a * p a) n)
  rw [← g3_one h]
  refine sm_cg (fun a _ => ?_)
  show w a * g2 w (fun b c => p a * p b * p c) a = w a * p a * g2 (fun a => w a * p a) (fun _ _ => 1) a
  rw [show g2 w (fun b c => p a * p b * p c) a = p a * g2 w (fun b c => p b * p c) a by rw [← g2_mul]; exact g2_cg (fun _ _ _ _ => Nat.mul_assoc _ _ _), Nat.mul_assoc]
  congr 2
  refine sm_cg (fun b _ => ?_)
  show w b * g1 w (fun c => p b * p c) b = w b * p b * g1 (fun a => w a * p a) (fun _ => 1) b
  rw [g1_mul, g1_one, Nat.mul_assoc]; rfl
theorem w01_mul {w : Nat → Nat} {Q : Nat → Prop} [DecidablePred Q] (h : one01 w) : one01 (fun a => w a * (if Q a then 1 else 0)) := fun a => by
  show w a * (if Q a then 1 else 0) = 0 ∨ w a * (if Q a then 1 else 0) = 1
  rcases h a with z | z <;> rw [z] <;> by_cases y : Q a
  · rw [if_pos y]; exact Or.inl rfl
  · rw [if_neg y]; exact Or.inl rfl
  · rw [if_pos y]; exact Or.inr rfl
  · rw [if_neg y]; exact Or.inl rfl
theorem fls_g3 {w L : Nat → Nat} {x y : Nat} (h : one01 w) : g3 w (fun a b c => fls L 1 (f5 x y a b c)) 52 = flw w L x y := by
  rw [g3_cg (fun a b c _ _ _ => fls_f5), g3_mul, g3_ppp (p := fun a => if a % 4 = x % 4 then 1 else 0) (w01_mul h)]
  unfold flw sut
  by_cases z : y % 4 = x % 4
  · rw [if_pos z, if_pos z, Nat.mul_comm]
  · rw [if_neg z, if_neg z, Nat.zero_mul]
def jbN (N : Nat → Nat) (z s : Nat) : Nat := if z / 4 = 10 ∧ z % 4 = s % 4 then N (z % 4) else 0
theorem nbs_f5 {N : Nat → Nat} {x y a b s : Nat} : nbs N (f5 x y a b s) = (jbN N x s + jbN N y s) + (jbN N a s + jbN N b s) := by
  show 0 + jbN N x s + jbN N y s + jbN N a s + jbN N b s = _
  omega
theorem jbN_sm {N : Nat → Nat} {z s : Nat} : jbN N z s = sm (fun t => N t * ((if z = 40 + t then 1 else 0) * (if s % 4 = t then 1 else 0))) 4 := by
  unfold jbN
  by_cases q : z / 4 = 10 ∧ z % 4 = s % 4
  · rw [if_pos q, ← sm_pt (n := 4) (x := z % 4) (v := N (z % 4)) (by omega)]
    refine sm_cg (fun t _ => ?_)
    by_cases y : t = z % 4
    · rw [if_pos y, if_pos (by omega), if_pos (by omega), y]; omega
    · rw [if_neg y, if_neg (show ¬ z = 40 + t by omega)]; omega
  · rw [if_neg q]
    refine (sm_0 (fun t ht => ?_)).symm
    by_cases y : z = 40 + t
    · rw [if_pos y, if_neg (show ¬ s % 4 = t by omega)]; simp
    · rw [if_neg y]; omega
def nbw (w N : Nat → Nat) (x y M : Nat) : Nat := sm (fun s => (if x = 40 + s ∨ y = 40 + s then sut w s 52 * c2 (M - 1) else if w (40 + s) = 1 then (sut w s 52 - 1) * (M - 2) else 0) * N s) 4
theorem g1_pt {w : Nat → Nat} {z n : Nat} (h : z < n) : g1 w (fun a => if a = z then 1 else 0) n = w z := by
  unfold g1
  rw [sm_cg (h := fun a => if a = z then w z else 0) (fun a _ => by
    show w a * (if a = z then 1 else 0) = if a = z then w z else 0
    by_cases y : a = z
    · rw [if_pos y, if_pos y, y, Nat.mul_one]
    · rw [if_neg y, if_neg y, Nat.mul_zero]), sm_pt h]
theorem nbs_rfs {w N : Nat → Nat} {x y : Nat} (h : one01 w) (hN : 2 ≤ sm w 52) (hx : w x = 0) (hy : w y = 0) (hxy : x ≠ y) : rfs w (fun a b s => nbs N (f5 x y a b s)) 52 = nbw w N x y (sm w 52) := by
  rw [rfs_g3]
  have e : g3 w (fun a b c => nbs N (f5 x y a b c) + nbs N (f5 x y a c b) + nbs N (f5 x y b c a)) 52 = g3 w (fun a b c => ((jbN N x a + jbN N y a) + (jbN N x b + jbN N y b) + (jbN N x c + jbN N y c)) + ((jbN N a b + jbN N b a) + (jbN N a c + jbN N c a) + (jbN N b c + jbN N c b))) 52 := g3_cg (fun a b c _ _ _ => by rw [nbs_f5, nbs_f5, nbs_f5]; omega)
  rw [e, g3_add, each_N (g := fun a => jbN N x a + jbN N y a) h hN, pair_N (k := fun a b => jbN N a b + jbN N b a) h hN]
  generalize sm w 52 = M
  have e1 : ∀ z, g1 w (fun a => jbN N z a) 52 = sm (fun t => N t * ((if z = 40 + t then 1 else 0) * sut w t 52)) 4 := fun z => by
    rw [g1_cg (fun a _ => jbN_sm), g1_sm]
    exact sm_cg (fun t _ => by rw [g1_mul, g1_mul]; rfl)
  have e2 : g2 w (fun a b => jbN N a b + jbN N b a) 52 = sm (fun t => N t * (w (40 + t) * (sut w t 52 - 1))) 4 := by
    rw [g2_cg (h := fun a b => sm (fun t => N t * ((if a = 40 + t then 1 else 0) * (if b % 4 = t then 1 else 0) + (if b = 40 + t then 1 else 0) * (if a % 4 = t then 1 else 0))) 4) (fun a b _ _ => by rw [jbN_sm, jbN_sm, ← sm_plus]; exact sm_cg (fun t _ => (Nat.mul_add _ _ _).symm)), g2_sm]
    refine sm_cg (fun t ht => ?_)
    rw [g2_mul]
    congr 1
    have u := g2_uv (u := fun a => if a = 40 + t then 1 else 0) (v := fun a => if a % 4 = t then 1 else 0) h 52
    rw [g1_pt (by omega), show g1 w (fun a => (if a = 40 + t then 1 else 0) * (if a % 4 = t then 1 else 0)) 52 = w (40 + t) by
      rw [← g1_pt (w := w) (z := 40 + t) (n := 52) (by omega)]
      exact g1_cg (fun a _ => by
        by_cases y : a = 40 + t
        · rw [if_pos y, if_pos (by omega)]
        · rw [if_neg y, Nat.zero_mul])] at u
    show _ = w (40 + t) * (sut w t 52 - 1)
    have u : g2 w (fun a b => (if a = 40 + t then 1 else 0) * (if b % 4 = t then 1 else 0) + (if b = 40 + t then 1 else 0) * (if a % 4 = t then 1 else 0)) 52 + w (40 + t) = w (40 + t) * sut w t 52 := u
    rcases h (40 + t) with z | z <;> rw [z] at u ⊢ <;> omega
  rw [g1_add, e1, e1, e2]
  unfold nbw
  rw [← sm_plus, Nat.mul_comm _ (c2 (M - 1)), Nat.mul_comm _ (M - 2), ← sm_mul, ← sm_mul, ← sm_plus]
  refine sm_cg (fun s hs => ?_)
  by_cases a : x = 40 + s
  · rw [if_pos a, if_neg (show ¬ y = 40 + s by omega), if_pos (Or.inl a), ← a, hx]; grind
  · by_cases b : y = 40 + s
    · rw [if_neg a, if_pos b, if_pos (Or.inr b), ← b, hy]; grind
    · rw [if_neg a, if_neg b, if_neg (by omega)]
      rcases h (40 + s) with z | z <;> rw [z]
      · simp
      · rw [if_pos rfl]; grind
theorem rfs_add {w : Nat → Nat} {G H : Nat → Nat → Nat → Nat} {n : Nat} : rfs w (fun a b s => G a b s + H a b s) n = rfs w G n + rfs w H n := by
  rw [rfs_g3, rfs_g3, rfs_g3, ← g3_add]
  exact g3_cg (fun a b c _ _ _ => by omega)
theorem rfs_sym {w : Nat → Nat} {G : Nat → Nat → Nat → Nat} {n : Nat} (h1 : ∀ a b c, G a c b = G a b c) (h2 : ∀ a b c, G b c a = G a b c) : rfs w G n = 3 * g3 w G n := by
  rw [rfs_g3, ← g3_mul]
  exact g3_cg (fun a b c _ _ _ => by have u1 := h1 a b c; have u2 := h2 a b c; omega)
def cribV (V : Nat → Nat) (Y : Nat) (C : Nat → Nat → Nat) (w : Nat → Nat) (x y : Nat) : Nat := 3 * (((cw V w (C 1) (sm w 52) 0 Y + (if V x ≤ Y then cw V w (C 1) (sm w 52) 1 (Y - V x) else 0) + (if V y ≤ Y then cw V w (C 1) (sm w 52) 1 (Y - V y) else 0) + (if V x + V y ≤ Y then cw V w (C 1) (sm w 52) 2 (Y - (V x + V y)) else 0)) + pw w (C 2) x y (sm w 52)) + rwS w (C 3) x y + flw w (C 4) x y) + nbw w (C 5) x y (sm w 52)
theorem crib_eq {V w : Nat → Nat} {Y x y : Nat} {C : Nat → Nat → Nat} (h : one01 w) (hN : 2 ≤ sm w 52) (hx : x < 52) (hy : y < 52) (wx : w x = 0) (wy : w y = 0) (hxy : x ≠ y) : rfs w (fun a b s => amt V Y C 1 (f5 x y a b s) 0) 52 = cribV V Y C w x y := by
  have e : (fun a b s => amt V Y C 1 (f5 x y a b s) 0) = fun a b s => fif V Y (C 1) (f5 x y a b s) 5 32 + prs (C 2) (fun k => f5 x y a b s k / 4) 5 + rns (C 3) (f5 x y a b s) + fls (C 4) 1 (f5 x y a b s) + nbs (C 5) (f5 x y a b s) := rfl
  rw [e, rfs_add, rfs_add, rfs_add, rfs_add, nbs_rfs h hN wx wy hxy]
  rw [rfs_sym (G := fun a b s => fif V Y (C 1) (f5 x y a b s) 5 32) (fun a b c => by rw [fif_hh, fif_hh]; unfold hh; rw [Nat.add_comm (V c) (V b), Nat.add_right_comm (V a) (V c) (V b)]; omega) (fun a b c => by rw [fif_hh, fif_hh]; unfold hh; rw [Nat.add_comm (V b) (V a), Nat.add_comm (V c) (V a), show V b + V c + V a = V a + V b + V c by omega]; omega), fif_g3 h hN]
  have ee : ∀ P : Nat → Nat, ∀ i j : Nat, (if i = j then P i else 0) = if j = i then P j else 0 := fun P i j => by
    by_cases z : i = j
    · rw [if_pos z, if_pos z.symm, z]
    · rw [if_neg z, if_neg (fun q => z q.symm)]
  rw [rfs_sym (G := fun a b s => prs (C 2) (fun k => f5 x y a b s k / 4) 5) (fun a b c => by rw [prs_5f, prs_5f, ee (C 2) (c / 4) (b / 4)]; omega) (fun a b c => by rw [prs_5f, prs_5f, ee (C 2) (b / 4) (a / 4), ee (C 2) (c / 4) (a / 4)]; omega), prs_g3 h hN hx hy]
  have hr : ∀ i j k, rkH (C 3) x y i k j = rkH (C 3) x y i j k := fun i j k => by
    unfold rkH
    congr 1
    funext r
    omega
  have hr2 : ∀ i j k, rkH (C 3) x y j k i = rkH (C 3) x y i j k := fun i j k => by
    unfold rkH
    congr 1
    funext r
    omega
  rw [rfs_sym (G := fun a b s => rns (C 3) (f5 x y a b s)) (fun a b c => by rw [rns_H, rns_H, hr]) (fun a b c => by rw [rns_H, rns_H, hr2]), rns_g3 h]
  rw [rfs_sym (G := fun a b s => fls (C 4) 1 (f5 x y a b s)) (fun a b c => by rw [fls_f5, fls_f5]; grind) (fun a b c => by rw [fls_f5, fls_f5]; grind), fls_g3 h]
  unfold cribV
  omega
