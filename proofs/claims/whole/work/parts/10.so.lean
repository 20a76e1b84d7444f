/-! ===== what a run of a function tells ===== -/
def So {τ : Type} (o : Option τ) (Q : τ → Prop) : Prop := ∃ r, o = some r ∧ Q r
section SO
variable {τ α β : Type} {Q Q' : τ → Prop} {o a b : Option τ}
theorem So.ok {r : τ} (h : Q r) : So (some r) Q := ⟨r, rfl, h⟩
theorem So.of {v : τ} (h : o = some v) (hq : Q v) : So o Q := ⟨v, h, hq⟩
theorem So.eq {v : τ} (h : So o (fun r => r = v)) : o = some v := by
  obtain ⟨r, h1, rfl⟩ := h
  exact h1
theorem So.mono (h : So o Q) (hq : ∀ r, Q r → Q' r) : So o Q' := by
  obtain ⟨r, h1, h2⟩ := h
  exact ⟨r, h1, hq r h2⟩
theorem So.bind {p : Option α} {k : α → Option τ} {R : α → Prop} (h : So p R) (hk : ∀ r, R r → So (k r) Q) : So (p.bind k) Q := by
  obtain ⟨r, rfl, h2⟩ := h
  exact hk r h2
theorem So.bindE {p : Option α} {k : α → Option τ} {v : α} (h : p = some v) (hk : So (k v) Q) : So (p.bind k) Q := by
  rw [h]; exact hk
theorem So_bdM {g : Option (α × Mem)} {k : α → Mem → Option τ} {R : α × Mem → Prop} (h : So g R) (hk : ∀ r M, R (r, M) → So (k r M) Q) : So (bdM g k) Q := by
  obtain ⟨⟨r, M⟩, rfl, h2⟩ := h
  exact hk r M h2
theorem So_bdE {g : Option (α × Mem)} {k : α → Mem → Option τ} {v : α} {M : Mem} (h : g = some (v, M)) (hk : So (k v M) Q) : So (bdM g k) Q := by
  rw [h]; exact hk
theorem So_nm {e : α} {k : α → Option τ} (h : So (k e) Q) : So (nm e k) Q := h
theorem So_gd {c : Bool} {k : Option τ} (hc : c = true) (h : So k Q) : So (gd c k) Q := by
  show So (if c = true then k else none) Q
  rw [if_pos hc]; exact h
theorem So.ite {c : Prop} [Decidable c] (h1 : c → So a Q) (h2 : ¬ c → So b Q) : So (if c then a else b) Q := by
  by_cases h : c
  · rw [if_pos h]; exact h1 h
  · rw [if_neg h]; exact h2 h
theorem So_jn0 {k : Option τ} {b : Option τ → Option τ} (h : So (b k) Q) : So (jn0 k b) Q := h
theorem So_jn0R {k : Option τ} {b : Option τ → Option τ} (hk : So k Q) (hb : ∀ j, So j Q → So (b j) Q) : So (jn0 k b) Q := hb k hk

theorem So_jn1 {α0 : Type} {k : α0 → Option τ} {b : (α0 → Option τ) → Option τ} (h : So (b k) Q) : So (jn1 k b) Q := h
theorem So_jn1R {α0 : Type} {k : α0 → Option τ} {b : (α0 → Option τ) → Option τ} (R : α0 → Prop) (hk : ∀ x0, R x0 → So (k x0) Q) (hb : ∀ j : α0 → Option τ, (∀ x0, R x0 → So (j x0) Q) → So (b j) Q) : So (jn1 k b) Q := hb k hk
theorem So_wl1 {α0 : Type} {step : α0 → (α0 → Option τ) → Option τ} (I : α0 → Prop) (m : α0 → Nat) (hs : ∀ x0 rec, I x0 → (∀ y0, I y0 → m y0 < m x0 → So (rec y0) Q) → So (step x0 rec) Q) : ∀ (n : Nat) x0, I x0 → m x0 < n → So (wl1 step n x0) Q := by
  intro n
  induction n with
  | zero => intro x0 _ h; omega
  | succ n ih =>
    intro x0 hI hm
    exact hs x0 _ hI (fun y0 hy hl => ih y0 hy (by omega))
theorem So_jn2 {α0 α1 : Type} {k : α0 → α1 → Option τ} {b : (α0 → α1 → Option τ) → Option τ} (h : So (b k) Q) : So (jn2 k b) Q := h
theorem So_jn2R {α0 α1 : Type} {k : α0 → α1 → Option τ} {b : (α0 → α1 → Option τ) → Option τ} (R : α0 → α1 → Prop) (hk : ∀ x0 x1, R x0 x1 → So (k x0 x1) Q) (hb : ∀ j : α0 → α1 → Option τ, (∀ x0 x1, R x0 x1 → So (j x0 x1) Q) → So (b j) Q) : So (jn2 k b) Q := hb k hk
theorem So_wl2 {α0 α1 : Type} {step : α0 → α1 → (α0 → α1 → Option τ) → Option τ} (I : α0 → α1 → Prop) (m : α0 → α1 → Nat) (hs : ∀ x0 x1 rec, I x0 x1 → (∀ y0 y1, I y0 y1 → m y0 y1 < m x0 x1 → So (rec y0 y1) Q) → So (step x0 x1 rec) Q) : ∀ (n : Nat) x0 x1, I x0 x1 → m x0 x1 < n → So (wl2 step n x0 x1) Q := by
  intro n
  induction n with
  | zero => intro x0 x1 _ h; omega
  | succ n ih =>
    intro x0 x1 hI hm
    exact hs x0 x1 _ hI (fun y0 y1 hy hl => ih y0 y1 hy (by omega))
theorem So_jn3 {α0 α1 α2 : Type} {k : α0 → α1 → α2 → Option τ} {b : (α0 → α1 → α2 → Option τ) → Option τ} (h : So (b k) Q) : So (jn3 k b) Q := h
theorem So_jn3R {α0 α1 α2 : Type} {k : α0 → α1 → α2 → Option τ} {b : (α0 → α1 → α2 → Option τ) → Option τ} (R : α0 → α1 → α2 → Prop) (hk : ∀ x0 x1 x2, R x0 x1 x2 → So (k x0 x1 x2) Q) (hb : ∀ j : α0 → α1 → α2 → Option τ, (∀ x0 x1 x2, R x0 x1 x2 → So (j x0 x1 x2) Q) → So (b j) Q) : So (jn3 k b) Q := hb k hk
theorem So_wl3 {α0 α1 α2 : Type} {step : α0 → α1 → α2 → (α0 → α1 → α2 → Option τ) → Option τ} (I : α0 → α1 → α2 → Prop) (m : α0 → α1 → α2 → Nat) (hs : ∀ x0 x1 x2 rec, I x0 x1 x2 → (∀ y0 y1 y2, I y0 y1 y2 → m y0 y1 y2 < m x0 x1 x2 → So (rec y0 y1 y2) Q) → So (step x0 x1 x2 rec) Q) : ∀ (n : Nat) x0 x1 x2, I x0 x1 x2 → m x0 x1 x2 < n → So (wl3 step n x0 x1 x2) Q := by
  intro n
  induction n with
  | zero => intro x0 x1 x2 _ h; omega
  | succ n ih =>
    intro x0 x1 x2 hI hm
    exact hs x0 x1 x2 _ hI (fun y0 y1 y2 hy hl => ih y0 y1 y2 hy (by omega))
theorem So_jn4 {α0 α1 α2 α3 : Type} {k : α0 → α1 → α2 → α3 → Option τ} {b : (α0 → α1 → α2 → α3 → Option τ) → Option τ} (h : So (b k) Q) : So (jn4 k b) Q := h
theorem So_jn4R {α0 α1 α2 α3 : Type} {k : α0 → α1 → α2 → α3 → Option τ} {b : (α0 → α1 → α2 → α3 → Option τ) → Option τ} (R : α0 → α1 → α2 → α3 → Prop) (hk : ∀ x0 x1 x2 x3, R x0 x1 x2 x3 → So (k x0 x1 x2 x3) Q) (hb : ∀ j : α0 → α1 → α2 → α3 → Option τ, (∀ x0 x1 x2 x3, R x0 x1 x2 x3 → So (j x0 x1 x2 x3) Q) → So (b j) Q) : So (jn4 k b) Q := hb k hk
theorem So_wl4 {α0 α1 α2 α3 : Type} {step : α0 → α1 → α2 → α3 → (α0 → α1 → α2 → α3 → Option τ) → Option τ} (I : α0 → α1 → α2 → α3 → Prop) (m : α0 → α1 → α2 → α3 → Nat) (hs : ∀ x0 x1 x2 x3 rec, I x0 x1 x2 x3 → (∀ y0 y1 y2 y3, I y0 y1 y2 y3 → m y0 y1 y2 y3 < m x0 x1 x2 x3 → So (rec y0 y1 y2 y3) Q) → So (step x0 x1 x2 x3 rec) Q) : ∀ (n : Nat) x0 x1 x2 x3, I x0 x1 x2 x3 → m x0 x1 x2 x3 < n → So (wl4 step n x0 x1 x2 x3) Q := by
  intro n
  induction n with
  | zero => intro x0 x1 x2 x3 _ h; omega
  | succ n ih =>
    intro x0 x1 x2 x3 hI hm
    exact hs x0 x1 x2 x3 _ hI (fun y0 y1 y2 y3 hy hl => ih y0 y1 y2 y3 hy (by omega))
theorem So_jn5 {α0 α1 α2 α3 α4 : Type} {k : α0 → α1 → α2 → α3 → α4 → Option τ} {b : (α0 → α1 → α2 → α3 → α4 → Option τ) → Option τ} (h : So (b k) Q) : So (jn5 k b) Q := h
theorem So_jn5R {α0 α1 α2 α3 α4 : Type} {k : α0 → α1 → α2 → α3 → α4 → Option τ} {b : (α0 → α1 → α2 → α3 → α4 → Option τ) → Option τ} (R : α0 → α1 → α2 → α3 → α4 → Prop) (hk : ∀ x0 x1 x2 x3 x4, R x0 x1 x2 x3 x4 → So (k x0 x1 x2 x3 x4) Q) (hb : ∀ j : α0 → α1 → α2 → α3 → α4 → Option τ, (∀ x0 x1 x2 x3 x4, R x0 x1 x2 x3 x4 → So (j x0 x1 x2 x3 x4) Q) → So (b j) Q) : So (jn5 k b) Q := hb k hk
theorem So_wl5 {α0 α1 α2 α3 α4 : Type} {step : α0 → α1 → α2 → α3 → α4 → (α0 → α1 → α2 → α3 → α4 → Option τ) → Option τ} (I : α0 → α1 → α2 → α3 → α4 → Prop) (m : α0 → α1 → α2 → α3 → α4 → Nat) (hs : ∀ x0 x1 x2 x3 x4 rec, I x0 x1 x2 x3 x4 → (∀ y0 y1 y2 y3 y4, I y0 y1 y2 y3 y4 → m y0 y1 y2 y3 y4 < m x0 x1 x2 x3 x4 → So (rec y0 y1 y2 y3 y4) Q) → So (step x0 x1 x2 x3 x4 rec) Q) : ∀ (n : Nat) x0 x1 x2 x3 x4, I x0 x1 x2 x3 x4 → m x0 x1 x2 x3 x4 < n → So (wl5 step n x0 x1 x2 x3 x4) Q := by
  intro n
  induction n with
  | zero => intro x0 x1 x2 x3 x4 _ h; omega
  | succ n ih =>
    intro x0 x1 x2 x3 x4 hI hm
    exact hs x0 x1 x2 x3 x4 _ hI (fun y0 y1 y2 y3 y4 hy hl => ih y0 y1 y2 y3 y4 hy (by omega))
theorem So_jn6 {α0 α1 α2 α3 α4 α5 : Type} {k : α0 → α1 → α2 → α3 → α4 → α5 → Option τ} {b : (α0 → α1 → α2 → α3 → α4 → α5 → Option τ) → Option τ} (h : So (b k) Q) : So (jn6 k b) Q := h
theorem So_jn6R {α0 α1 α2 α3 α4 α5 : Type} {k : α0 → α1 → α2 → α3 → α4 → α5 → Option τ} {b : (α0 → α1 → α2 → α3 → α4 → α5 → Option τ) → Option τ} (R : α0 → α1 → α2 → α3 → α4 → α5 → Prop) (hk : ∀ x0 x1 x2 x3 x4 x5, R x0 x1 x2 x3 x4 x5 → So (k x0 x1 x2 x3 x4 x5) Q) (hb : ∀ j : α0 → α1 → α2 → α3 → α4 → α5 → Option τ, (∀ x0 x1 x2 x3 x4 x5, R x0 x1 x2 x3 x4 x5 → So (j x0 x1 x2 x3 x4 x5) Q) → So (b j) Q) : So (jn6 k b) Q := hb k hk
theorem So_wl6 {α0 α1 α2 α3 α4 α5 : Type} {step : α0 → α1 → α2 → α3 → α4 → α5 → (α0 → α1 → α2 → α3 → α4 → α5 → Option τ) → Option τ} (I : α0 → α1 → α2 → α3 → α4 → α5 → Prop) (m : α0 → α1 → α2 → α3 → α4 → α5 → Nat) (hs : ∀ x0 x1 x2 x3 x4 x5 rec, I x0 x1 x2 x3 x4 x5 → (∀ y0 y1 y2 y3 y4 y5, I y0 y1 y2 y3 y4 y5 → m y0 y1 y2 y3 y4 y5 < m x0 x1 x2 x3 x4 x5 → So (rec y0 y1 y2 y3 y4 y5) Q) → So (step x0 x1 x2 x3 x4 x5 rec) Q) : ∀ (n : Nat) x0 x1 x2 x3 x4 x5, I x0 x1 x2 x3 x4 x5 → m x0 x1 x2 x3 x4 x5 < n → So (wl6 step n x0 x1 x2 x3 x4 x5) Q := by
  intro n
  induction n with
  | zero => intro x0 x1 x2 x3 x4 x5 _ h; omega
  | succ n ih =>
    intro x0 x1 x2 x3 x4 x5 hI hm
    exact hs x0 x1 x2 x3 x4 x5 _ hI (fun y0 y1 y2 y3 y4 y5 hy hl => ih y0 y1 y2 y3 y4 y5 hy (by omega))
end SO
