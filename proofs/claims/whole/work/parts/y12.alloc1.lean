/-! ===== worlds that grow: a block of new cells from t on ===== -/
def kat (G : List (Nat × Nat)) (o : Nat) : Nat × Nat := G.getD o (99, 0)
def wg (w : WX) (t : Nat) (G : List (Nat × Nat)) : WX := (w.1, w.2.1, w.2.2.1, w.2.2.2.1, wdom w ++ (List.range G.length).map (fun o => t + o), fun a => if t ≤ a ∧ a < t + G.length then kat G (a - t) else wG w a)
def Bel (w : WX) (t : Nat) : Prop := ∀ a ∈ wdom w, a < t
theorem put_at {M U : Mem} {t S o : Nat} (h : o < S) : mI (put M t S U) (t + o) = mI U o ∧ mJ (put M t S U) (t + o) = mJ U o ∧ mR (put M t S U) (t + o) = mR U o ∧ mN (put M t S U) (t + o) = mN U o := by
  have hc : t ≤ t + o ∧ t + o < t + S := by omega
  have e : t + o - t = o := by omega
  refine ⟨?_, ?_, ?_, ?_⟩
  · show (if t ≤ t + o ∧ t + o < t + S then U.1 (t + o - t) else M.1 (t + o)) = U.1 o
    rw [if_pos hc, e]
  · show (if t ≤ t + o ∧ t + o < t + S then U.2.1 (t + o - t) else M.2.1 (t + o)) = U.2.1 o
    rw [if_pos hc, e]
  · show (if t ≤ t + o ∧ t + o < t + S then U.2.2.1 (t + o - t) else M.2.2.1 (t + o)) = U.2.2.1 o
    rw [if_pos hc, e]
  · show (if _ then _ else _) = _; rw [if_pos hc, e]; rfl
theorem put_outy {M U : Mem} {t S a : Nat} (h : a < t ∨ t + S ≤ a) : mI (put M t S U) a = mI M a ∧ mJ (put M t S U) a = mJ M a ∧ mR (put M t S U) a = mR M a ∧ mN (put M t S U) a = mN M a := by
  have hc : ¬ (t ≤ a ∧ a < t + S) := by omega
  refine ⟨?_, ?_, ?_, ?_⟩
  · show (if t ≤ a ∧ a < t + S then U.1 (a - t) else M.1 a) = M.1 a
    rw [if_neg hc]
  · show (if t ≤ a ∧ a < t + S then U.2.1 (a - t) else M.2.1 a) = M.2.1 a
    rw [if_neg hc]
  · show (if t ≤ a ∧ a < t + S then U.2.2.1 (a - t) else M.2.2.1 a) = M.2.2.1 a
    rw [if_neg hc]
  · show (if _ then _ else _) = _; rw [if_neg hc]; rfl
theorem mem_ext {M M' : Mem} (h1 : ∀ a, mI M a = mI M' a) (h2 : ∀ a, mJ M a = mJ M' a) (h3 : ∀ a, mR M a = mR M' a) (h4 : ∀ a, mN M a = mN M' a) : M = M' := by
  obtain ⟨a, b, c, d⟩ := M
  obtain ⟨a', b', c', d'⟩ := M'
  have e1 : a = a' := funext fun x => h1 x
  have e2 : b = b' := funext fun x => h2 x
  have e3 : c = c' := funext fun x => h3 x
  have e4 : d = d' := funext fun x => h4 x
  subst e1 e2 e3 e4; rfl
theorem put_ext {M U : Mem} {t S : Nat} {X : Mem} (hi : ∀ o, o < S → mI X (t + o) = mI U o ∧ mJ X (t + o) = mJ U o ∧ mR X (t + o) = mR U o ∧ mN X (t + o) = mN U o) (ho : ∀ a, (a < t ∨ t + S ≤ a) → mI X a = mI M a ∧ mJ X a = mJ M a ∧ mR X a = mR M a ∧ mN X a = mN M a) : X = put M t S U := by
  have key : ∀ a, mI X a = mI (put M t S U) a ∧ mJ X a = mJ (put M t S U) a ∧ mR X a = mR (put M t S U) a ∧ mN X a = mN (put M t S U) a := by
    intro a
    by_cases h : a < t ∨ t + S ≤ a
    · obtain ⟨a1, a2, a3, a4⟩ := ho a h
      obtain ⟨b1, b2, b3, b4⟩ := put_outy (M := M) (U := U) h
      exact ⟨a1.trans b1.symm, a2.trans b2.symm, a3.trans b3.symm, a4.trans b4.symm⟩
    · have e : a = t + (a - t) := by omega
      rw [e]
      obtain ⟨a1, a2, a3, a4⟩ := hi (a - t) (by omega)
      obtain ⟨b1, b2, b3, b4⟩ := put_at (M := M) (U := U) (t := t) (S := S) (o := a - t) (by omega)
      exact ⟨a1.trans b1.symm, a2.trans b2.symm, a3.trans b3.symm, a4.trans b4.symm⟩
  exact mem_ext (fun a => (key a).1) (fun a => (key a).2.1) (fun a => (key a).2.2.1) (fun a => (key a).2.2.2)
theorem up2_at {α : Type} {f : Nat → Nat → α} {a k : Nat} {v : α} (b : Nat) : up2 f a k v b = if b = a then va_up (f a) k v else f b := by
  by_cases h : b = a
  · subst h; rw [if_pos rfl, up2_s]
  · rw [if_neg h, up2_n h]
theorem sI_put {M U : Mem} {t S o k : Nat} {v : Int32} (h : o < S) : sI (put M t S U) (t + o) k v = put M t S (sI U o k v) := by
  refine put_ext (fun p hp => ?_) (fun a ha => ?_)
  · obtain ⟨b1, b2, b3, b4⟩ := put_at (M := M) (U := U) (t := t) hp
    refine ⟨?_, b2, b3, b4⟩
    show up2 (put M t S U).1 (t + o) k v (t + p) = up2 U.1 o k v p
    rw [up2_at, up2_at]
    by_cases e : p = o
    · subst e; rw [if_pos rfl, if_pos rfl]; exact congrArg (fun z => va_up z k v) b1
    · rw [if_neg (by omega), if_neg e]; exact b1
  · obtain ⟨b1, b2, b3, b4⟩ := put_outy (M := M) (U := U) ha
    refine ⟨?_, b2, b3, b4⟩
    show up2 (put M t S U).1 (t + o) k v a = _
    rw [up2_n (by omega)]; exact b1
theorem sJ_put {M U : Mem} {t S o k : Nat} {v : Int64} (h : o < S) : sJ (put M t S U) (t + o) k v = put M t S (sJ U o k v) := by
  refine put_ext (fun p hp => ?_) (fun a ha => ?_)
  · obtain ⟨b1, b2, b3, b4⟩ := put_at (M := M) (U := U) (t := t) hp
    refine ⟨b1, ?_, b3, b4⟩
    show up2 (put M t S U).2.1 (t + o) k v (t + p) = up2 U.2.1 o k v p
    rw [up2_at, up2_at]
    by_cases e : p = o
    · subst e; rw [if_pos rfl, if_pos rfl]; exact congrArg (fun z => va_up z k v) b2
    · rw [if_neg (by omega), if_neg e]; exact b2
  · obtain ⟨b1, b2, b3, b4⟩ := put_outy (M := M) (U := U) ha
    refine ⟨b1, ?_, b3, b4⟩
    show up2 (put M t S U).2.1 (t + o) k v a = _
    rw [up2_n (by omega)]; exact b2
theorem sR_put {M U : Mem} {t S o k : Nat} {v : Option Nat} (h : o < S) : sR (put M t S U) (t + o) k v = put M t S (sR U o k v) := by
  refine put_ext (fun p hp => ?_) (fun a ha => ?_)
  · obtain ⟨b1, b2, b3, b4⟩ := put_at (M := M) (U := U) (t := t) hp
    refine ⟨b1, b2, ?_, b4⟩
    show up2 (put M t S U).2.2.1 (t + o) k v (t + p) = up2 U.2.2.1 o k v p
    rw [up2_at, up2_at]
    by_cases e : p = o
    · subst e; rw [if_pos rfl, if_pos rfl]; exact congrArg (fun z => va_up z k v) b3
    · rw [if_neg (by omega), if_neg e]; exact b3
  · obtain ⟨b1, b2, b3, b4⟩ := put_outy (M := M) (U := U) ha
    refine ⟨b1, b2, ?_, b4⟩
    show up2 (put M t S U).2.2.1 (t + o) k v a = _
    rw [up2_n (by omega)]; exact b3
theorem put_put {M U V : Mem} {t S o s : Nat} (h : o + s ≤ S) : put (put M t S U) (t + o) s V = put M t S (put U o s V) := by
  refine put_ext (fun p hp => ?_) (fun a ha => ?_)
  · obtain ⟨b1, b2, b3, b4⟩ := put_at (M := M) (U := U) (t := t) hp
    by_cases e : o ≤ p ∧ p < o + s
    · have e1 : t + p = t + o + (p - o) := by omega
      have e2 : p = o + (p - o) := by omega
      obtain ⟨c1, c2, c3, c4⟩ := put_at (M := put M t S U) (U := V) (t := t + o) (S := s) (o := p - o) (by omega)
      obtain ⟨d1, d2, d3, d4⟩ := put_at (M := U) (U := V) (t := o) (S := s) (o := p - o) (by omega)
      rw [← e1] at c1 c2 c3 c4
      rw [← e2] at d1 d2 d3 d4
      exact ⟨c1.trans d1.symm, c2.trans d2.symm, c3.trans d3.symm, c4.trans d4.symm⟩
    · obtain ⟨c1, c2, c3, c4⟩ := put_outy (M := put M t S U) (U := V) (t := t + o) (S := s) (a := t + p) (by omega)
      obtain ⟨d1, d2, d3, d4⟩ := put_outy (M := U) (U := V) (t := o) (S := s) (a := p) (by omega)
      exact ⟨(c1.trans b1).trans d1.symm, (c2.trans b2).trans d2.symm, (c3.trans b3).trans d3.symm, (c4.trans b4).trans d4.symm⟩
  · obtain ⟨b1, b2, b3, b4⟩ := put_outy (M := M) (U := U) ha
    obtain ⟨c1, c2, c3, c4⟩ := put_outy (M := put M t S U) (U := V) (t := t + o) (S := s) (a := a) (by omega)
    exact ⟨c1.trans b1, c2.trans b2, c3.trans b3, c4.trans b4⟩
theorem wg_dom {w : WX} {t a : Nat} {G : List (Nat × Nat)} : a ∈ wdom (wg w t G) ↔ a ∈ wdom w ∨ (t ≤ a ∧ a < t + G.length) := by
  show a ∈ wdom w ++ (List.range G.length).map (fun o => t + o) ↔ _
  rw [List.mem_append, List.mem_map]
  constructor
  · rintro (h | ⟨o, h, rfl⟩)
    · exact Or.inl h
    · have := List.mem_range.mp h
      exact Or.inr (by omega)
  · rintro (h | h)
    · exact Or.inl h
    · exact Or.inr ⟨a - t, List.mem_range.mpr (by omega), by omega⟩
theorem wat_new {w : WX} {t o kd n : Nat} {G : List (Nat × Nat)} (h : G[o]? = some (kd, n)) : Wat (wg w t G) (t + o) kd n := by
  have hl : o < G.length := (List.getElem?_eq_some_iff.mp h).1
  refine ⟨wg_dom.mpr (Or.inr (by omega)), ?_⟩
  show (if _ then _ else _) = _
  rw [if_pos (by omega), show t + o - t = o by omega]
  unfold kat
  rw [List.getD_eq_getElem?_getD, h]; rfl
theorem wat_old {w : WX} {t a kd n : Nat} {G : List (Nat × Nat)} (hb : Bel w t) (h : Wat w a kd n) : Wat (wg w t G) a kd n := by
  have := hb a h.1
  refine ⟨wg_dom.mpr (Or.inl h.1), ?_⟩
  show (if _ then _ else _) = _
  rw [if_neg (by omega)]; exact h.2
theorem wat_inv {w : WX} {t a kd n : Nat} {G : List (Nat × Nat)} (hb : Bel w t) (h : Wat (wg w t G) a kd n) : Wat w a kd n ∨ (∃ o, a = t + o ∧ G[o]? = some (kd, n)) := by
  rcases wg_dom.mp h.1 with h1 | h1
  · left
    have := hb a h1
    refine ⟨h1, ?_⟩
    have e : (if t ≤ a ∧ a < t + G.length then kat G (a - t) else wG w a) = (kd, n) := h.2
    rwa [if_neg (by omega)] at e
  · right
    refine ⟨a - t, by omega, ?_⟩
    have e : (if t ≤ a ∧ a < t + G.length then kat G (a - t) else wG w a) = (kd, n) := h.2
    rw [if_pos h1] at e
    have hl : a - t < G.length := by omega
    rw [List.getElem?_eq_getElem hl]
    unfold kat at e
    rw [List.getD_eq_getElem?_getD, List.getElem?_eq_getElem hl] at e
    exact congrArg some e
theorem bel_wg {w : WX} {t : Nat} {G : List (Nat × Nat)} (hb : Bel w t) : Bel (wg w t G) (t + G.length) := by
  intro a ha
  rcases wg_dom.mp ha with h | h
  · have := hb a h; omega
  · exact h.2
theorem wg_app {w : WX} {t : Nat} {G G' : List (Nat × Nat)} : wg w t (G ++ G') = wg (wg w t G) (t + G.length) G' := by
  have e1 : wdom w ++ (List.range (G ++ G').length).map (fun o => t + o) = (wdom w ++ (List.range G.length).map (fun o => t + o)) ++ (List.range G'.length).map (fun o => t + G.length + o) := by
    rw [List.append_assoc, List.length_append, List.range_add, List.map_append, List.map_map]
    congr 2
    apply List.map_congr_left
    intro o _
    show t + (G.length + o) = t + G.length + o
    omega
  have e2 : (fun a => if t ≤ a ∧ a < t + (G ++ G').length then kat (G ++ G') (a - t) else wG w a) = (fun a => if t + G.length ≤ a ∧ a < t + G.length + G'.length then kat G' (a - (t + G.length)) else (if t ≤ a ∧ a < t + G.length then kat G (a - t) else wG w a)) := by
    funext a
    rw [List.length_append]
    by_cases h1 : t ≤ a ∧ a < t + G.length
    · rw [if_pos (by omega), if_neg (by omega), if_pos h1]
      unfold kat
      rw [List.getD_eq_getElem?_getD, List.getD_eq_getElem?_getD, List.getElem?_append_left (by omega)]
    · by_cases h2 : t + G.length ≤ a ∧ a < t + G.length + G'.length
      · rw [if_pos (by omega), if_pos h2]
        unfold kat
        rw [List.getD_eq_getElem?_getD, List.getD_eq_getElem?_getD, List.getElem?_append_right (by omega)]
        rw [show a - t - G.length = a - (t + G.length) by omega]
      · rw [if_neg (by omega), if_neg h2, if_neg h1]
  unfold wg
  rw [e1, e2]
