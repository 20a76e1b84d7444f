/-! ===== threes of cards: sums ===== -/
def g1 (w g : Nat → Nat) (n : Nat) : Nat := sm (fun a => w a * g a) n
def g2 (w : Nat → Nat) (h : Nat → Nat → Nat) (n : Nat) : Nat := sm (fun a => w a * g1 w (h a) a) n
def g3 (w : Nat → Nat) (G : Nat → Nat → Nat → Nat) (n : Nat) : Nat := sm (fun a => w a * g2 w (G a) a) n
theorem g1_s {w g : Nat → Nat} {n : Nat} : g1 w g (n + 1) = g1 w g n + w n * g n := rfl
theorem g2_s {w : Nat → Nat} {h : Nat → Nat → Nat} {n : Nat} : g2 w h (n + 1) = g2 w h n + w n * g1 w (h n) n := rfl
theorem g3_s {w : Nat → Nat} {G : Nat → Nat → Nat → Nat} {n : Nat} : g3 w G (n + 1) = g3 w G n + w n * g2 w (G n) n := rfl
theorem g1_cg {w g h : Nat → Nat} {n : Nat} (e : ∀ a, a < n → g a = h a) : g1 w g n = g1 w h n := sm_cg (fun a ha => by rw [e a ha])
theorem g2_cg {w : Nat → Nat} {g h : Nat → Nat → Nat} {n : Nat} (e : ∀ a b, b < a → a < n → g a b = h a b) : g2 w g n = g2 w h n := sm_cg (fun a ha => by rw [g1_cg (fun b hb => e a b hb ha)])
theorem g3_cg {w : Nat → Nat} {g h : Nat → Nat → Nat → Nat} {n : Nat} (e : ∀ a b c, c < b → b < a → a < n → g a b c = h a b c) : g3 w g n = g3 w h n := sm_cg (fun a ha => by rw [g2_cg (fun b c hc hb => e a b c hc hb ha)])
theorem g1_add {w g h : Nat → Nat} {n : Nat} : g1 w (fun a => g a + h a) n = g1 w g n + g1 w h n := by
  induction n with
  | zero => rfl
  | succ n ih => rw [g1_s, g1_s, g1_s, ih]; grind
theorem g2_add {w : Nat → Nat} {g h : Nat → Nat → Nat} {n : Nat} : g2 w (fun a b => g a b + h a b) n = g2 w g n + g2 w h n := by
  induction n with
  | zero => rfl
  | succ n ih => rw [g2_s, g2_s, g2_s, ih, g1_add]; grind
theorem g3_add {w : Nat → Nat} {g h : Nat → Nat → Nat → Nat} {n : Nat} : g3 w (fun a b c => g a b c + h a b c) n = g3 w g n + g3 w h n := by
  induction n with
  | zero => rfl
  | succ n ih => rw [g3_s, g3_s, g3_s, ih, g2_add]; grind
theorem g1_mul {w g : Nat → Nat} {n k : Nat} : g1 w (fun a => k * g a) n = k * g1 w g n := by
  induction n with
  | zero => rfl
  | succ n ih => rw [g1_s, g1_s, ih]; grind
theorem g2_mul {w : Nat → Nat} {g : Nat → Nat → Nat} {n k : Nat} : g2 w (fun a b => k * g a b) n = k * g2 w g n := by
  induction n with
  | zero => rfl
  | succ n ih => rw [g2_s, g2_s, ih, g1_mul]; grind
theorem g3_mul {w : Nat → Nat} {g : Nat → Nat → Nat → Nat} {n k : Nat} : g3 w (fun a b c => k * g a b c) n = k * g3 w g n := by
  induction n with
  | zero => rfl
  | succ n ih => rw [g3_s, g3_s, ih, g2_mul]; grind
def c2 : Nat → Nat
  | 0 => 0
  | n + 1 => c2 n + n
def c3 : Nat → Nat
  | 0 => 0
  | n + 1 => c3 n + c2 n
theorem c2_s {n : Nat} : c2 (n + 1) = c2 n + n := rfl
theorem c3_s {n : Nat} : c3 (n + 1) = c3 n + c2 n := rfl
def one01 (w : Nat → Nat) : Prop := ∀ a, w a = 0 ∨ w a = 1
theorem g1_one {w : Nat → Nat} {n : Nat} : g1 w (fun _ => 1) n = sm w n := sm_cg (fun a _ => by rw [Nat.mul_one])
theorem g2_one {w : Nat → Nat} (h : one01 w) : ∀ n, g2 w (fun _ _ => 1) n = c2 (sm w n)
  | 0 => rfl
  | n + 1 => by
    rw [g2_s, g2_one h n, sm_s, g1_one]
    rcases h n with z | z <;> rw [z]
    · simp
    · rw [c2_s]; omega
theorem g3_one {w : Nat → Nat} (h : one01 w) : ∀ n, g3 w (fun _ _ _ => 1) n = c3 (sm w n)
  | 0 => rfl
  | n + 1 => by
    rw [g3_s, g3_one h n, sm_s, g2_one h n]
    rcases h n with z | z <;> rw [z]
    · simp
    · rw [c3_s]; omega
theorem g2_each {w g : Nat → Nat} (h : one01 w) : ∀ n, g2 w (fun a b => g a + g b) n + g1 w g n = g1 w g n * sm w n
  | 0 => rfl
  | n + 1 => by
    have ih := g2_each (g := g) h n
    rw [g2_s, sm_s, g1_s, g1_add, show g1 w (fun _ => g n) n = g n * sm w n by rw [← g1_one, ← g1_mul]; exact g1_cg (fun _ _ => (Nat.mul_one _).symm)]
    rcases h n with z | z <;> rw [z] <;> grind
theorem g3_each {w g : Nat → Nat} (h : one01 w) : ∀ n, g3 w (fun a b c => g a + g b + g c) n + g1 w g n * sm w n = g1 w g n * c2 (sm w n) + g1 w g n
  | 0 => rfl
  | n + 1 => by
    have ih := g3_each (g := g) h n
    have i2 := g2_each (g := g) h n
    have e : g2 w (fun b c => g n + g b + g c) n = g n * c2 (sm w n) + g2 w (fun b c => g b + g c) n := by
      rw [← g2_one h, ← g2_mul, ← g2_add]
      exact g2_cg (fun b c _ _ => by omega)
    rw [g3_s, sm_s, g1_s, e]
    rcases h n with z | z <;> rw [z]
    · simpa using ih
    · rw [c2_s]; grind
theorem g3_pair {w : Nat → Nat} {k : Nat → Nat → Nat} (h : one01 w) : ∀ n, g3 w (fun a b c => k a b + k a c + k b c) n + 2 * g2 w k n = g2 w k n * sm w n
  | 0 => rfl
  | n + 1 => by
    have ih := g3_pair (k := k) h n
    have i2 := g2_each (g := k n) h n
    have e : g2 w (fun b c => k n b + k n c + k b c) n = g2 w (fun b c => k n b + k n c) n + g2 w k n := by rw [← g2_add]
    rw [g3_s, sm_s, g2_s, e]
    rcases h n with z | z <;> rw [z]
    · simpa using ih
    · grind
theorem g2_uv {w u v : Nat → Nat} (h : one01 w) : ∀ n, g2 w (fun a b => u a * v b + u b * v a) n + g1 w (fun a => u a * v a) n = g1 w u n * g1 w v n
  | 0 => rfl
  | n + 1 => by
    have ih := g2_uv (u := u) (v := v) h n
    have e : g1 w (fun b => u n * v b + u b * v n) n = u n * g1 w v n + v n * g1 w u n := by
      rw [← g1_mul, ← g1_mul, ← g1_add]
      exact g1_cg (fun b _ => by rw [Nat.mul_comm (u b)])
    rw [g2_s, g1_s, g1_s, g1_s, e]
    rcases h n with z | z <;> rw [z] <;> grind
/-! each with each starter -/
def rfs (w : Nat → Nat) (G : Nat → Nat → Nat → Nat) (n : Nat) : Nat := sm (fun a => w a * sm (fun b => w b * sm (fun s => if s = a ∨ s = b then 0 else w s * G a b s) n) a) n
theorem sm_low {g : Nat → Nat} {s n : Nat} (h : s ≤ n) : sm g s = sm (fun b => if b < s then g b else 0) n := by
  obtain ⟨c, rfl⟩ : ∃ c, n = s + c := ⟨n - s, by omega⟩
  rw [sm_add, sm_cg (g := fun b => if b < s then g b else 0) (h := g) (fun i hi => if_pos hi), sm_0 (g := fun i => if s + i < s then g (s + i) else 0) (fun i _ => if_neg (by omega))]; omega
theorem sm_ind {g : Nat → Nat} {c : Nat} {p : Prop} [Decidable p] {n : Nat} : c * sm (fun s => if p then g s else 0) n = if p then c * sm g n else 0 := by
  by_cases z : p
  · rw [if_pos z, sm_cg (h := g) (fun i _ => if_pos z)]
  · rw [if_neg z, sm_0 (fun i _ => if_neg z)]; omega
theorem rfs_g3 {w : Nat → Nat} {G : Nat → Nat → Nat → Nat} {n : Nat} : rfs w G n = g3 w (fun a b c => G a b c + G a c b + G b c a) n := by
  -- all as full sums
  have hL : rfs w G n = sm (fun a => sm (fun b => sm (fun s => if b < a ∧ ¬ (s = a ∨ s = b) then w a * w b * w s * G a b s else 0) n) n) n := by
    refine sm_cg (fun a ha => ?_)
    rw [sm_low (n := n) (by omega), ← sm_mul]
    refine sm_cg (fun b hb => ?_)
    by_cases z : b < a
    · rw [if_pos z, ← sm_mul, ← sm_mul]
      refine sm_cg (fun s hs => ?_)
      by_cases y : s = a ∨ s = b
      · rw [if_pos y, if_neg (fun q => q.2 y)]; rfl
      · rw [if_neg y, if_pos ⟨z, y⟩]; grind
    · rw [if_neg z, sm_0 (fun s _ => if_neg (fun q => z q.1))]; rfl
  have hR : ∀ K : Nat → Nat → Nat → Nat, g3 w K n = sm (fun a => sm (fun b => sm (fun c => if c < b ∧ b < a then w a * w b * w c * K a b c else 0) n) n) n := fun K => by
    refine sm_cg (fun a ha => ?_)
    show w a * sm (fun b => w b * sm (fun c => w c * K a b c) b) a = _
    rw [sm_low (n := n) (by omega), ← sm_mul]
    refine sm_cg (fun b hb => ?_)
    by_cases z : b < a
    · rw [if_pos z, sm_low (n := n) (by omega), ← sm_mul, ← sm_mul]
      refine sm_cg (fun c hc => ?_)
      by_cases y : c < b
      · rw [if_pos y, if_pos ⟨y, z⟩]; grind
      · rw [if_neg y, if_neg (fun q => y q.1)]; rfl
    · rw [if_neg z, sm_0 (fun s _ => if_neg (fun q => z q.2))]; rfl
  rw [hL, hR]
  have e : ∀ a b s, (if b < a ∧ ¬ (s = a ∨ s = b) then w a * w b * w s * G a b s else 0) = (if s < b ∧ b < a then w a * w b * w s * G a b s else 0) + (if b < s ∧ s < a then w a * w b * w s * G a b s else 0) + (if b < a ∧ a < s then w a * w b * w s * G a b s else 0) := fun a b s => by
    by_cases z1 : b < a
    · by_cases z2 : s < b
      · rw [if_pos (by omega), if_pos (by omega), if_neg (by omega), if_neg (by omega)]; omega
      · by_cases z3 : s = b
        · rw [if_neg (by omega), if_neg (by omega), if_neg (by omega), if_neg (by omega)]
        · by_cases z4 : s < a
          · rw [if_pos (by omega), if_neg (by omega), if_pos (by omega), if_neg (by omega)]; omega
          · by_cases z5 : s = a
            · rw [if_neg (by omega), if_neg (by omega), if_neg (by omega), if_neg (by omega)]
            · rw [if_pos (by omega), if_neg (by omega), if_neg (by omega), if_pos (by omega)]; omega
    · rw [if_neg (by omega), if_neg (by omega), if_neg (by omega), if_neg (by omega)]
  have e1 : sm (fun a => sm (fun b => sm (fun s => if b < a ∧ ¬ (s = a ∨ s = b) then w a * w b * w s * G a b s else 0) n) n) n = sm (fun a => sm (fun b => sm (fun s => if s < b ∧ b < a then w a * w b * w s * G a b s else 0) n) n) n + sm (fun a => sm (fun b => sm (fun s => if b < s ∧ s < a then w a * w b * w s * G a b s else 0) n) n) n + sm (fun a => sm (fun b => sm (fun s => if b < a ∧ a < s then w a * w b * w s * G a b s else 0) n) n) n := by
    rw [← sm_plus, ← sm_plus]
    refine sm_cg (fun a _ => ?_)
    rw [← sm_plus, ← sm_plus]
    refine sm_cg (fun b _ => ?_)
    rw [← sm_plus, ← sm_plus]
    exact sm_cg (fun s _ => e a b s)
  have e2 : sm (fun a => sm (fun b => sm (fun s => if b < s ∧ s < a then w a * w b * w s * G a b s else 0) n) n) n = sm (fun a => sm (fun b => sm (fun c => if c < b ∧ b < a then w a * w b * w c * G a c b else 0) n) n) n := by
    refine sm_cg (fun a _ => ?_)
    rw [sm_swap]
    exact sm_cg (fun b _ => sm_cg (fun c _ => by
      by_cases z : c < b ∧ b < a
      · rw [if_pos z, if_pos z]; grind
      · rw [if_neg z, if_neg z]))
  have e3 : sm (fun a => sm (fun b => sm (fun s => if b < a ∧ a < s then w a * w b * w s * G a b s else 0) n) n) n = sm (fun a => sm (fun b => sm (fun c => if c < b ∧ b < a then w a * w b * w c * G b c a else 0) n) n) n := by
    rw [sm_cg (g := fun a => sm (fun b => sm (fun s => if b < a ∧ a < s then w a * w b * w s * G a b s else 0) n) n) (h := fun a => sm (fun s => sm (fun b => if b < a ∧ a < s then w a * w b * w s * G a b s else 0) n) n) (fun a _ => sm_swap _ _ _), sm_swap]
    exact sm_cg (fun a _ => sm_cg (fun b _ => sm_cg (fun c _ => by
      by_cases z : c < b ∧ b < a
      · rw [if_pos z, if_pos z]; grind
      · rw [if_neg z, if_neg z])))
  rw [e1, e2, e3, ← sm_plus, ← sm_plus]
  refine sm_cg (fun a _ => ?_)
  rw [← sm_plus, ← sm_plus]
  refine sm_cg (fun b _ => ?_)
  rw [← sm_plus, ← sm_plus]
  refine sm_cg (fun c _ => ?_)
  by_cases z : c < b ∧ b < a
  · rw [if_pos z, if_pos z, if_pos z, if_pos z]; grind
  · rw [if_neg z, if_neg z, if_neg z, if_neg z]
