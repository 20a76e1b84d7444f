theorem er_fl : ∀ (l : List Nat), l.Nodup → ∀ (k : Nat) (hk : k < l.length), l.eraseIdx k = l.filter (fun c => !decide (c = l[k])) := by
  intro l
  induction l with
  | nil => intro _ k hk; exact absurd hk (by simp)
  | cons a l ih =>
    intro hd k hk
    obtain ⟨h1, h2⟩ := List.nodup_cons.mp hd
    cases k with
    | zero =>
      show l = _
      rw [List.filter_cons]
      simp only [List.getElem_cons_zero, decide_true, Bool.not_true, Bool.false_eq_true, if_false]
      symm
      rw [List.filter_eq_self]
      intro c hc
      have : c ≠ a := fun z => h1 (z ▸ hc)
      simp [this]
    | succ k =>
      have hk2 : k < l.length := by simpa using hk
      have hm : l[k] ∈ l := List.getElem_mem hk2
      have hne : a ≠ l[k] := fun z => h1 (z ▸ hm)
      rw [List.eraseIdx_cons_succ, ih h2 k hk2, List.filter_cons]
      simp only [List.getElem_cons_succ]
      rw [if_pos (by simp [hne])]
theorem cs_nodup (Q : Nat → Bool) : (cs Q).Nodup := by
  unfold cs
  exact List.Nodup.sublist List.filter_sublist List.nodup_range
theorem er_cs {Q : Nat → Bool} {k : Nat} (hk : k < (cs Q).length) : (cs Q).eraseIdx k = cs (fun c => Q c && !decide (c = (cs Q).getD k 0)) := by
  have hg : (cs Q).getD k 0 = (cs Q)[k] := by rw [List.getD_eq_getElem?_getD, List.getElem?_eq_getElem hk]; rfl
  rw [hg, er_fl (cs Q) (cs_nodup Q) k hk]
  generalize (cs Q)[k] = x
  unfold cs
  rw [List.filter_filter]
  refine List.filter_congr (fun c _ => ?_)
  by_cases z : c = x
  · simp [z]
  · simp [z]
/-- dealing: who is left of the pack, and the seed, after i cards -/
def dlS (s0 : Nat) : Nat → (Nat → Bool) × Nat
  | 0 => (fun _ => true, s0)
  | i + 1 => (fun c => (dlS s0 i).1 c && !decide (c = (cs (dlS s0 i).1).getD (sdN (dlS s0 i).2 % (52 - i)) 0), sdN (dlS s0 i).2)
def dlC (s0 i : Nat) : Nat := (cs (dlS s0 i).1).getD (sdN (dlS s0 i).2 % (52 - i)) 0
theorem dlS_len {s0 : Nat} : ∀ i, i ≤ 52 → (cs (dlS s0 i).1).length = 52 - i := by
  intro i
  induction i with
  | zero => intro _; show (cs (fun _ => true)).length = 52; decide
  | succ i ih =>
    intro hi
    have h := ih (by omega)
    have hk : sdN (dlS s0 i).2 % (52 - i) < (cs (dlS s0 i).1).length := by rw [h]; exact Nat.mod_lt _ (by omega)
    show (cs (fun c => (dlS s0 i).1 c && !decide (c = (cs (dlS s0 i).1).getD (sdN (dlS s0 i).2 % (52 - i)) 0))).length = _
    rw [← er_cs hk, List.length_eraseIdx_of_lt hk, h]; omega
theorem dlS_seed {s0 : Nat} (h : s0 ≤ 1000003) : ∀ i, (dlS s0 i).2 ≤ 1000003 := by
  intro i
  cases i with
  | zero => exact h
  | succ i => exact Nat.le_of_lt (Nat.mod_lt _ (by decide))
theorem dlC_in {s0 i : Nat} (hi : i < 52) : dlC s0 i < 52 ∧ (dlS s0 i).1 (dlC s0 i) = true := by
  have h := dlS_len (s0 := s0) i (by omega)
  have hk : sdN (dlS s0 i).2 % (52 - i) < (cs (dlS s0 i).1).length := by rw [h]; exact Nat.mod_lt _ (by omega)
  have hg : dlC s0 i ∈ cs (dlS s0 i).1 := by
    unfold dlC
    rw [List.getD_eq_getElem?_getD, List.getElem?_eq_getElem hk]
    exact List.getElem_mem hk
  unfold cs at hg
  rw [List.mem_filter] at hg
  exact ⟨List.mem_range.mp hg.1, hg.2⟩
