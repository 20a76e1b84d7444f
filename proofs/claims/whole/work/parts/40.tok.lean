/-! ===== tokens, as pure functions of the bytes ===== -/
def scan (P : Nat → Bool) : Nat → Nat → Nat
  | 0, p => p
  | n + 1, p => if P p = true then scan P n (p + 1) else p
theorem scan_ge (P : Nat → Bool) : ∀ n p, p ≤ scan P n p
  | 0, p => Nat.le_refl _
  | n + 1, p => by
    unfold scan
    split
    · exact Nat.le_trans (Nat.le_succ p) (scan_ge P n (p + 1))
    · exact Nat.le_refl _
theorem scan_le (P : Nat → Bool) : ∀ n p, scan P n p ≤ p + n
  | 0, p => Nat.le_refl _
  | n + 1, p => by
    unfold scan
    split
    · have := scan_le P n (p + 1); omega
    · omega
theorem scan_yes (P : Nat → Bool) {L p : Nat} (h : p < L) (hp : P p = true) : scan P (L - p) p = scan P (L - (p + 1)) (p + 1) := by
  rw [show L - p = (L - (p + 1)) + 1 by omega, scan, if_pos hp]
theorem scan_no (P : Nat → Bool) {L p : Nat} (hp : P p = false) : scan P (L - p) p = p := by
  cases h : L - p with
  | zero => rfl
  | succ n => rw [scan, if_neg (by rw [hp]; decide)]
theorem scan_end (P : Nat → Bool) {L p : Nat} (h : L ≤ p) : scan P (L - p) p = p := by
  rw [show L - p = 0 by omega]; rfl
theorem scan_all (P : Nat → Bool) : ∀ n p i, p ≤ i → i < scan P n p → P i = true
  | 0, p, i, h1, h2 => by unfold scan at h2; omega
  | n + 1, p, i, h1, h2 => by
    unfold scan at h2
    by_cases h : P p = true
    · rw [if_pos h] at h2
      by_cases e : i = p
      · rw [e]; exact h
      · exact scan_all P n (p + 1) i (by omega) h2
    · rw [if_neg h] at h2; omega
def isLt (b : Nat) : Bool := decide (97 ≤ b ∧ b ≤ 122)
def isDg (b : Nat) : Bool := decide (48 ≤ b ∧ b ≤ 57)
def tkS (B : Nat → Nat) (L p : Nat) : Nat := scan (fun i => decide (B i = 32)) (L - p) p
def tkE (B : Nat → Nat) (L p : Nat) : Nat := if L ≤ tkS B L p then L else if isLt (B (tkS B L p)) = true then scan (fun i => isLt (B i)) (L - tkS B L p) (tkS B L p) else if isDg (B (tkS B L p)) = true then scan (fun i => isDg (B i)) (L - tkS B L p) (tkS B L p) else tkS B L p + 1
def tkK (B : Nat → Nat) (L p : Nat) : Nat := if L ≤ tkS B L p then 0 else if isLt (B (tkS B L p)) = true then 1 else if isDg (B (tkS B L p)) = true then 2 else 3
theorem tkS_ge (B : Nat → Nat) (L p : Nat) : p ≤ tkS B L p := scan_ge _ _ _
theorem tkS_le (B : Nat → Nat) {L p : Nat} (h : p ≤ L) : tkS B L p ≤ L := by
  have := scan_le (fun i => decide (B i = 32)) (L - p) p
  unfold tkS; omega
theorem tkE_le (B : Nat → Nat) {L p : Nat} (h : p ≤ L) : tkE B L p ≤ L := by
  have h1 := tkS_le B h
  have h2 := scan_le (fun i => isLt (B i)) (L - tkS B L p) (tkS B L p)
  have h3 := scan_le (fun i => isDg (B i)) (L - tkS B L p) (tkS B L p)
  unfold tkE
  split
  · omega
  split
  · omega
  split <;> omega
theorem tkE_gt (B : Nat → Nat) {L p : Nat} (h : tkK B L p ≠ 0) : tkS B L p < tkE B L p := by
  unfold tkK at h
  unfold tkE
  by_cases c : L ≤ tkS B L p
  · rw [if_pos c] at h; exact absurd rfl h
  rw [if_neg c]
  by_cases c2 : isLt (B (tkS B L p)) = true
  · rw [if_pos c2, scan_yes (fun i => isLt (B i)) (by omega) c2]
    exact scan_ge _ _ _
  rw [if_neg c2]
  by_cases c3 : isDg (B (tkS B L p)) = true
  · rw [if_pos c3, scan_yes (fun i => isDg (B i)) (by omega) c3]
    exact scan_ge _ _ _
  rw [if_neg c3]; omega
theorem tkE_ge (B : Nat → Nat) (L p : Nat) (h : p ≤ L) : p ≤ tkE B L p := by
  have h1 := tkS_ge B L p
  by_cases c : tkK B L p = 0
  · have : L ≤ tkS B L p := by
      unfold tkK at c
      by_cases z : L ≤ tkS B L p
      · exact z
      · rw [if_neg z] at c; split at c <;> (try split at c) <;> omega
    unfold tkE; rw [if_pos this]; omega
  · have := tkE_gt B c; omega
/-- the letters of a token -/
def tkW (B : Nat → Nat) (L p : Nat) : List Nat := (List.range (tkE B L p - tkS B L p)).map (fun i => B (tkS B L p + i))
def nvP (B : Nat → Nat) : Nat → Nat → Nat → Nat
  | 0, _, a => a
  | n + 1, p, a => nvP B n (p + 1) (a * 10 + (B p - 48))
/-- a number's value -/
def tkN (B : Nat → Nat) (L p : Nat) : Nat := nvP B (tkE B L p - tkS B L p) (tkS B L p) 0
/-! the words -/
def WL : List (List Nat) := [[118, 97, 108, 117, 101], [102, 105, 102, 116, 101, 101, 110], [112, 97, 105, 114], [114, 117, 110], [102, 108, 117, 115, 104], [110, 111, 98], [98, 97, 114, 115], [108, 97, 121], [112, 108, 97, 121], [115, 104, 111, 119], [100, 101, 97, 108], [114, 97, 110, 107], [115, 117, 105, 116], [115, 105, 122, 101], [99, 114, 105, 98], [109, 111, 111, 100], [112, 104, 97, 115, 101], [100, 111, 110, 101], [108, 97, 116, 101, 115, 116], [99, 111, 117, 110, 116], [116, 117, 114, 110], [112, 101, 103, 115], [99, 97, 114, 100], [105, 102], [116, 105, 109, 101, 115], [98, 121], [111, 114], [97, 110, 100], [110, 111, 116]]
def wdN : List Nat := (WL.map (fun w => w ++ [32])).flatten
theorem wdN_eq : wdB = wdN.map Int32.ofNat := by decide +kernel
theorem wdN_len : wdN.length = 144 := by decide +kernel
theorem wdC_eq {i : Nat} (h : i < 144) : wdC i = Int32.ofNat (wdN.getD i 0) := by
  unfold wdC
  rw [wdN_eq, List.getD_eq_getElem?_getD, List.getElem?_map, List.getD_eq_getElem?_getD]
  have : i < wdN.length := by rw [wdN_len]; exact h
  rw [List.getElem?_eq_getElem this]; rfl
theorem wdN_small : ∀ c ∈ wdN, c < 256 := by decide +kernel
def wdL (w : List Nat) : List Nat → Nat → Option Nat → Option Nat
  | [], _, _ => none
  | c :: cs, i, m => if c = 32 then (if m = some w.length then some i else wdL w cs (i + 1) (some 0)) else wdL w cs i (match m with | some k => if k < w.length ∧ w.getD k 0 = c then some (k + 1) else none | none => none)
theorem wdL_cons (w : List Nat) (c : Nat) (cs : List Nat) (i : Nat) (m : Option Nat) : wdL w (c :: cs) i m = if c = 32 then (if m = some w.length then some i else wdL w cs (i + 1) (some 0)) else wdL w cs i (match m with | some k => if k < w.length ∧ w.getD k 0 = c then some (k + 1) else none | none => none) := rfl
theorem wdL_no (w rest : List Nat) (i : Nat) : ∀ x : List Nat, (∀ c ∈ x, c ≠ 32) → wdL w (x ++ 32 :: rest) i none = wdL w rest (i + 1) (some 0)
  | [], _ => by show wdL w (32 :: rest) i none = _; rw [wdL_cons, if_pos rfl, if_neg (by simp)]
  | c :: x, h => by
    show wdL w (c :: (x ++ 32 :: rest)) i none = _
    rw [wdL_cons, if_neg (h c (List.mem_cons_self))]
    exact wdL_no w rest i x (fun d hd => h d (List.mem_cons_of_mem _ hd))
theorem wdL_word (w rest : List Nat) (i : Nat) : ∀ (x : List Nat) (k : Nat), (∀ c ∈ x, c ≠ 32) → k ≤ w.length → wdL w (x ++ 32 :: rest) i (some k) = if w.drop k = x then some i else wdL w rest (i + 1) (some 0)
  | [], k, _, hk => by
    show wdL w (32 :: rest) i (some k) = _
    rw [wdL_cons, if_pos rfl]
    by_cases e : k = w.length
    · rw [if_pos (by rw [e]), if_pos (by rw [e, List.drop_length])]
    · rw [if_neg (by simp [e]), if_neg (fun q => e ?_)]
      have := List.drop_eq_nil_iff.mp q
      omega
  | c :: x, k, h, hk => by
    show wdL w (c :: (x ++ 32 :: rest)) i (some k) = _
    rw [wdL_cons, if_neg (h c (List.mem_cons_self))]
    have hx : ∀ d ∈ x, d ≠ 32 := fun d hd => h d (List.mem_cons_of_mem _ hd)
    by_cases e : k < w.length
    · have hd : w.drop k = w.getD k 0 :: w.drop (k + 1) := by
        rw [List.drop_eq_getElem_cons e, List.getD_eq_getElem?_getD, List.getElem?_eq_getElem e]; rfl
      by_cases e2 : w.getD k 0 = c
      · simp only [e, e2, and_self, if_true]
        rw [wdL_word w rest i x (k + 1) hx (by omega), hd, e2]
        simp
      · simp only [e2, and_false, if_false]
        rw [wdL_no w rest i x hx, if_neg (by rw [hd]; intro q; exact e2 (List.cons.inj q).1)]
    · simp only [e, false_and, if_false]
      rw [wdL_no w rest i x hx, if_neg (by rw [List.drop_eq_nil_of_le (by omega)]; simp)]
def wdI (w : List Nat) : List (List Nat) → Nat → Option Nat
  | [], _ => none
  | x :: xs, i => if w = x then some i else wdI w xs (i + 1)
theorem wdL_all (w : List Nat) : ∀ (xs : List (List Nat)) (i : Nat), (∀ x ∈ xs, ∀ c ∈ x, c ≠ 32) → wdL w ((xs.map (fun w => w ++ [32])).flatten) i (some 0) = wdI w xs i
  | [], _, _ => rfl
  | x :: xs, i, h => by
    show wdL w ((x ++ [32]) ++ _) i (some 0) = _
    rw [List.append_assoc]
    show wdL w (x ++ 32 :: (xs.map (fun w => w ++ [32])).flatten) i (some 0) = _
    rw [wdL_word w _ i x 0 (h x List.mem_cons_self) (Nat.zero_le _), List.drop_zero, wdL_all w xs (i + 1) (fun y hy => h y (List.mem_cons_of_mem _ hy))]
    rfl
def wIx (w : List Nat) : Int32 := match wdI w WL 0 with
  | some i => Int32.ofNat i
  | none => -1
theorem wdL_eq (w : List Nat) : wdL w wdN 0 (some 0) = wdI w WL 0 := wdL_all w WL 0 (by decide +kernel)
theorem wdI_iff (w : List Nat) : ∀ (xs : List (List Nat)) (i j : Nat), xs.Nodup → (wdI w xs i = some (i + j) ↔ xs[j]? = some w)
  | [], i, j, _ => by simp [wdI]
  | x :: xs, i, j, h => by
    have hn := List.nodup_cons.mp h
    unfold wdI
    by_cases e : w = x
    · subst e
      rw [if_pos rfl]
      cases j with
      | zero => simp
      | succ j =>
        simp only [List.getElem?_cons_succ]
        constructor
        · intro q; simp at q
        · intro q; exact absurd (List.mem_of_getElem? q) hn.1
    · rw [if_neg e]
      cases j with
      | zero =>
        constructor
        · intro q
          have : ∀ (ys : List (List Nat)) (k m : Nat), wdI w ys k = some m → k ≤ m := by
            intro ys
            induction ys with
            | nil => intro k m z; simp [wdI] at z
            | cons y ys ih =>
              intro k m z
              unfold wdI at z
              split at z
              · simp at z; omega
              · have := ih (k + 1) m z; omega
          have := this xs (i + 1) (i + 0) q
          omega
        · intro q; simp at q; exact absurd q.symm e
      | succ j =>
        rw [List.getElem?_cons_succ, ← wdI_iff w xs (i + 1) j hn.2, show i + (j + 1) = i + 1 + j by omega]
theorem wIx_iff (w : List Nat) {j : Nat} (hj : j < 29) : wIx w = Int32.ofNat j ↔ WL[j]? = some w := by
  rw [← wdI_iff w WL 0 j (by decide +kernel), Nat.zero_add]
  unfold wIx
  cases h : wdI w WL 0 with
  | none =>
    simp only []
    constructor
    · intro q
      have := congrArg Int32.toInt q
      rw [nn_int (by omega), show (-1 : Int32).toInt = -1 from rfl] at this; omega
    · intro q; simp at q
  | some i =>
    have hi : i < 29 := by
      have : ∀ (ys : List (List Nat)) (k m : Nat), wdI w ys k = some m → m < k + ys.length := by
        intro ys
        induction ys with
        | nil => intro k m z; simp [wdI] at z
        | cons y ys ih =>
          intro k m z
          unfold wdI at z
          split at z
          · simp at z; simp; omega
          · have := ih (k + 1) m z; simp; omega
      have := this WL 0 i h
      have e : WL.length = 29 := rfl
      omega
    rw [nn_eq (by omega) (by omega)]; simp
/-! the reference's code of a word -/
def enc (w : List Nat) : Nat := w.foldl (fun a b => a * 32 + (b - 96)) 0
theorem enc_app (w : List Nat) (b : Nat) : enc (w ++ [b]) = enc w * 32 + (b - 96) := by unfold enc; rw [List.foldl_append]; rfl
theorem nil_or (w : List Nat) : w = [] ∨ ∃ v b, w = v ++ [b] := by
  rcases List.eq_nil_or_concat w with h | ⟨v, b, h⟩
  · exact Or.inl h
  · exact Or.inr ⟨v, b, by rw [h, List.concat_eq_append]⟩
def allLt (w : List Nat) : Prop := ∀ c ∈ w, 97 ≤ c ∧ c ≤ 122
theorem enc_inj : ∀ (n : Nat) (w x : List Nat), w.length = n → allLt w → allLt x → enc w = enc x → w = x
  | 0, w, x, hn, hw, hx, h => by
    have : w = [] := List.length_eq_zero_iff.mp hn
    subst this
    rcases nil_or x with rfl | ⟨y, b, rfl⟩
    · rfl
    · rw [enc_app] at h
      have := hx b (by simp)
      have e : enc [] = 0 := rfl
      omega
  | n + 1, w, x, hn, hw, hx, h => by
    rcases nil_or w with rfl | ⟨v, a, rfl⟩
    · simp at hn
    · rcases nil_or x with rfl | ⟨y, b, rfl⟩
      · rw [enc_app] at h
        have := hw a (by simp)
        have e : enc [] = 0 := rfl
        omega
      · rw [enc_app, enc_app] at h
        have ha := hw a (by simp)
        have hb := hx b (by simp)
        have e1 : enc v = enc y := by omega
        have e2 : a = b := by omega
        rw [enc_inj n v y (by simpa using hn) (fun c hc => hw c (by simp [hc])) (fun c hc => hx c (by simp [hc])) e1, e2]
theorem enc_lt : ∀ (n : Nat) (w : List Nat), w.length = n → allLt w → enc w < 32 ^ n
  | 0, w, hn, _ => by
    have : w = [] := List.length_eq_zero_iff.mp hn
    subst this; decide
  | n + 1, w, hn, hw => by
    rcases nil_or w with rfl | ⟨v, a, rfl⟩
    · simp at hn
    · have ha := hw a (by simp)
      have := enc_lt n v (by simpa using hn) (fun c hc => hw c (by simp [hc]))
      rw [enc_app, Nat.pow_succ]; omega
/-- what the reference makes of a word -/
def wCd (w : List Nat) : Int64 := if w.length ≤ 10 then Int64.ofNat (enc w) else -1
theorem wCd_iff {w x : List Nat} (hw : allLt w) (hx : allLt x) (hl : x.length ≤ 10) : wCd w = Int64.ofNat (enc x) ↔ w = x := by
  have hx2 := enc_lt x.length x rfl hx
  have p1 : 32 ^ x.length ≤ 32 ^ 10 := Nat.pow_le_pow_right (by decide) hl
  have e10 : 32 ^ 10 = 1125899906842624 := by decide
  unfold wCd
  constructor
  · intro h
    by_cases c : w.length ≤ 10
    · rw [if_pos c] at h
      have hw2 := enc_lt w.length w rfl hw
      have p2 : 32 ^ w.length ≤ 32 ^ 10 := Nat.pow_le_pow_right (by decide) c
      have := congrArg Int64.toInt h
      rw [jn_int (by omega), jn_int (by omega)] at this
      exact enc_inj w.length w x rfl hw hx (by omega)
    · rw [if_neg c] at h
      have := congrArg Int64.toInt h
      rw [jn_int (by omega), show (-1 : Int64).toInt = -1 from rfl] at this
      omega
  · rintro rfl
    rw [if_pos hl]
