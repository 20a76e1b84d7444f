def fkT : List (List Nat) := [[4, 9, 10, 11, 2, 0, 0, 0], [4, 0], [4, 5, 6, 7, 8, 2, 0, 0, 0, 1], [4, 20, 21, 1], [4, 5, 0, 0], [4, 5, 0, 0, 0, 0, 0, 0, 0, 0], [4, 8, 9, 10, 11, 1, 0, 0, 0, 0], [4, 5, 0, 0, 0, 0], [4, 5, 6, 1, 1, 0, 0, 0, 0, 0, 0, 0, 0], [4, 5, 0, 0, 0], [4, 7, 8, 1, 0, 0, 2, 0, 0], [4, 13, 32, 99, 166, 170, 174, 179, 182, 194, 206, 212, 231, 240, 278, 279, 0, 0, 0], [0, 0, 4, 5, 6, 7, 8, 9, 0, 10, 11, 0, 12, 0, 0, 0, 0, 1, 0, 0, 0, 0, 13, 0, 14, 15, 0, 16, 17, 0, 0, 18, 19, 20, 0, 21, 22, 23, 0, 1, 1, 24, 25, 26, 27, 28, 29, 30, 31, 32, 1, 33, 34, 35, 36, 37, 38, 39, 40, 41, 42, 43, 0, 0, 0, 0, 44, 0]]
def fk (ci k : Nat) : Nat := (fkT.getD ci []).getD k 0
def nf (ci : Nat) : Nat := (fkT.getD ci []).length
/-- final references: how far off, what is there -/
def finT : List (List (Option (Nat × Nat × Nat))) := [[some (1, 35, 4), some (6, 20, 13), some (7, 20, 4), some (8, 20, 13), none, none, none, none], [some (1, 31, 9), none], [some (1, 20, 4), some (2, 20, 13), some (3, 20, 13), some (4, 20, 13), some (5, 20, 32), none, none, none, none, none], [some (1, 34, 15), some (17, 20, 15), some (18, 20, 15), none], [some (1, 30, 16), some (2, 20, 16), none, none], [some (1, 20, 400), some (2, 9, 0), none, none, none, none, none, none, none, none], [some (1, 8, 0), some (5, 20, 6), some (6, 20, 6), some (7, 36, 6), some (8, 20, 3), none, none, none, none, none], [some (1, 20, 19), some (2, 21, 32), none, none, none, none], [some (1, 21, 2), some (2, 20, 2), some (3, 20, 8), none, none, none, none, none, none, none, none, none, none], [some (1, 23, 0), some (2, 23, 0), none, none, none], [some (1, 7, 0), some (4, 20, 52), some (5, 33, 6), none, none, none, none, none, none], [some (1, 6, 0), some (10, 32, 2), some (29, 4, 0), some (96, 4, 0), some (163, 8, 0), some (167, 8, 0), some (171, 5, 0), some (176, 7, 0), some (179, 10, 0), some (191, 10, 0), some (203, 2, 0), some (209, 3, 0), some (228, 0, 0), some (237, 1, 0), some (275, 20, 5), some (276, 20, 2), none, none, none], [none, none, some (1, 20, 7), some (2, 20, 5594), some (3, 20, 11188), some (4, 22, 2), some (5, 20, 2196), some (6, 20, 16), none, some (7, 20, 1952), some (8, 20, 16), none, some (9, 20, 400), none, none, none, none, none, none, none, none, none, some (10, 20, 96), none, some (11, 20, 400), some (12, 20, 400), none, some (13, 20, 400), some (14, 20, 400), none, none, some (15, 21, 6), some (16, 21, 7), some (17, 21, 7), none, some (18, 21, 13), some (19, 21, 13), some (20, 21, 400), none, none, none, some (21, 20, 52), some (22, 20, 6), some (23, 20, 13), some (24, 20, 6), some (25, 20, 8), some (26, 20, 4), some (27, 20, 5), some (28, 20, 6), some (29, 20, 14), none, some (30, 20, 52), some (31, 20, 6), some (32, 20, 1220), some (33, 20, 10), some (34, 20, 10), some (35, 20, 10), some (36, 20, 10), some (37, 20, 15), some (38, 21, 21), some (39, 21, 4), some (40, 20, 96), none, none, none, none, some (41, 20, 2), none]]
def fin (ci k : Nat) : Option (Nat × Nat × Nat) := (finT.getD ci []).getD k none
/-- references that change: what kind they tell of -/
def mtk (kd k : Nat) : Option Nat := if kd = 36 then some 9 else if kd = 0 ∧ k = 4 then some 10 else if kd = 2 ∧ k = 5 then some 10 else if kd = 10 ∧ k = 6 then some 9 else none
/-- static arrays -/
def stl : List (String × String × List Int32) := [("CribbageRoom", "LEAST_TERMS", [0, 0, 0, 5]), ("CribbageRoom", "MOST_TERMS", [999, 10, 9, 31]), ("CribbageRoom", "REFUSALS", [-1, -2, -3, -5, -6]), ("CribbageRoom$Worth", "FIRST_ITEMS", [0, 1, 0, 3, 0, 0]), ("CribbageRoom$Worth", "ITEM_ENDS", [0, 9, 13, 9, 8, 4])]
/-! ===== memory, world, judgement ===== -/
/-- classes of arrays by number, the first address that is ours, addresses of static arrays, all our cells, what each is -/
abbrev WX : Type := va_G × (Nat → ClassId) × Nat × (Nat → Nat) × List Nat × (Nat → Nat × Nat)
abbrev wD (w : WX) : va_G := w.1
abbrev wAy (w : WX) : Nat → ClassId := w.2.1
abbrev wz (w : WX) : Nat := w.2.2.1
abbrev wsa (w : WX) : Nat → Nat := w.2.2.2.1
abbrev wdom (w : WX) : List Nat := w.2.2.2.2.1
abbrev wG (w : WX) : Nat → Nat × Nat := w.2.2.2.2.2
abbrev wtys (w : WX) : List (ClassId × FieldType) := [(wAy w 0, .int), (wAy w 1, .long), (wAy w 2, .boolean), (wAy w 3, .object "CribbageRoom$Table"), (wAy w 4, .object "CribbageRoom$State"), (wAy w 5, .array .int), (wAy w 6, .array .long), (wAy w 7, .object "CribbageRoom$Text")]
/-- a field's value: an int, a long, a reference that may change, a reference that never does -/
def fv (ci : Nat) (M : Mem) (a k : Nat) : Value := match fk ci k with
  | 0 => .int (mI M a k)
  | 1 => .long (mJ M a k)
  | 2 => va_rf (mR M a k)
  | o + 3 => .ref (a + o)
/-- arrays of references that never change: which class of array, offset, step, what each element is -/
def afn (kd : Nat) : Option (Nat × Nat × Nat × Nat × Nat) := match kd with
  | 30 => some (3, 2, 4, 8, 0)
  | 31 => some (3, 1, 4, 8, 0)
  | 32 => some (4, 1, 9, 6, 0)
  | 33 => some (5, 1, 1, 20, 39)
  | 34 => some (5, 1, 1, 20, 52)
  | 35 => some (6, 1, 1, 21, 32)
  | _ => none
/-- an object that is being made: all its references stand in the memory -/
def fvr (ci : Nat) (M : Mem) (a k : Nat) : Value := match fk ci k with
  | 0 => .int (mI M a k)
  | 1 => .long (mJ M a k)
  | _ + 2 => va_rf (mR M a k)
def cEk (w : WX) (M : Mem) (a kd n : Nat) : va_E :=
  if 60 ≤ kd then .inl (wAy w (kd - 60), n, .inr (.inr (.inr (.inr (mR M a)))))
  else if 40 ≤ kd then .inr (kd - 40, (List.range (nf (kd - 40))).map (fvr (kd - 40) M a))
  else if kd < 20 then .inr (kd, (List.range (nf kd)).map (fv kd M a))
  else if kd = 20 then .inl (wAy w 0, n, .inl (mI M a))
  else if kd = 21 then .inl (wAy w 1, n, .inr (.inl (mJ M a)))
  else if kd = 22 then .inl (wAy w 2, n, .inl (mI M a))
  else if kd = 23 then .inl (wAy w 0, mN M a, .inl (mI M a))
  else match afn kd with
    | some (c, off, st, _, _) => .inl (wAy w c, n, .inr (.inr (.inr (.inr (fun i => some (a + off + st * i))))))
    | none => .inl (wAy w 7, n, .inr (.inr (.inr (.inr (mR M a)))))
def cE (w : WX) (M : Mem) (a : Nat) : va_E := cEk w M a (wG w a).1 (wG w a).2
abbrev wcl (w : WX) (M : Mem) : va_W := va_pl (wdom w) (cE w M)
abbrev A0 (w : WX) : Nat → Prop := fun q => wz w ≤ q
def Wat (w : WX) (a kd n : Nat) : Prop := a ∈ wdom w ∧ wG w a = (kd, n)
def Lay (w : WX) : Prop := (∀ a ci n, Wat w a ci n → ∀ k o kd n', fin ci k = some (o, kd, n') → Wat w (a + o) kd n') ∧ (∀ a kd n, Wat w a kd n → ∀ c off st ek en, afn kd = some (c, off, st, ek, en) → ∀ i, i < n → Wat w (a + off + st * i) ek en)
def WT (w : WX) (M : Mem) : Prop := ∀ a kd n, Wat w a kd n → ∀ k kd' b, mtk kd k = some kd' → mR M a k = some b → Wat w b kd' 0
/-- what the world's cells hold -/
def Hol (w : WX) (M : Mem) (H : Heap) : Prop := va_P (wD w) cls (wcl w M) H ∧ va_D (A0 w) (wcl w M) ∧ WT w M
/-- what static arrays hold -/
def Stt (w : WX) (U : State) : Prop := ∀ i q, stl[i]? = some q → va_Z q.1 q.2.1 "[I" (.ref (wsa w i)) (A0 w) U U.heap ∧ va_T .int (wsa w i) q.2.2.length (fun j => .int (q.2.2.getD j 0)) (A0 w) U U.heap
/-- the text of words, and what the JDK's text methods read -/
def Str (w : WX) (U : State) : Prop := vk_R "CribbageRoom$Reader" 130 "value fifteen pair run flush nob bars lay play show deal rank suit size crib mood phase done latest count turn pegs card if times by or and not " (wsa w 5) U ∧ vk_S 1 [144] [wdB] (fun _ => wsa w 5) (fun _ => wsa w 6) (A0 w) U U.heap ∧ va_Z "java/lang/String" "COMPACT_STRINGS" "Z" (.int 1) (A0 w) U U.heap ∧ va_Zq "jdk/internal/util/Preconditions" "SIOOBE_FORMATTER" "Ljava/util/function/BiFunction;" (A0 w) U U.heap
def Fix (w : WX) (U : State) : Prop := wz w ≤ U.heap.size ∧ va_K (wD w) cls (wtys w) U ∧ Stt w U ∧ Lay w ∧ Str w U
theorem up2_s {α : Type} {f : Nat → Nat → α} {a k : Nat} {v : α} : up2 f a k v a = va_up (f a) k v := if_pos rfl
theorem up2_n {α : Type} {f : Nat → Nat → α} {a k b : Nat} {v : α} (h : b ≠ a) : up2 f a k v b = f b := if_neg h
theorem cEk_I {w : WX} {M M' : Mem} {b kd n : Nat} (h1 : mI M' b = mI M b) (h2 : mJ M' b = mJ M b) (h3 : mR M' b = mR M b) (h4 : mN M' b = mN M b) : cEk w M' b kd n = cEk w M b kd n := by
  have : fv kd M' b = fv kd M b := by
    funext k
    unfold fv
    rw [h1, h2, h3]
  have h9 : fvr (kd - 40) M' b = fvr (kd - 40) M b := by
    funext k
    unfold fvr
    rw [h1, h2, h3]
  unfold cEk
  rw [h1, h2, h3, h4, this, h9]
theorem cE_up {w : WX} {M M' : Mem} {a : Nat} (h1 : ∀ b, b ≠ a → mI M' b = mI M b) (h2 : ∀ b, b ≠ a → mJ M' b = mJ M b) (h3 : ∀ b, b ≠ a → mR M' b = mR M b) (h4 : ∀ b, mN M' b = mN M b) : cE w M' = va_up (cE w M) a (cE w M' a) := by
  funext b
  unfold va_up
  by_cases hb : b = a
  · rw [if_pos hb, hb]
  · rw [if_neg hb]
    exact cEk_I (h1 b hb) (h2 b hb) (h3 b hb) (h4 b)
theorem cE_sI (w : WX) (M : Mem) (a k : Nat) (v : Int32) : cE w (sI M a k v) = va_up (cE w M) a (cE w (sI M a k v) a) := cE_up (fun _ h => up2_n h) (fun _ _ => rfl) (fun _ _ => rfl) (fun _ => rfl)
theorem cE_sJ (w : WX) (M : Mem) (a k : Nat) (v : Int64) : cE w (sJ M a k v) = va_up (cE w M) a (cE w (sJ M a k v) a) := cE_up (fun _ _ => rfl) (fun _ h => up2_n h) (fun _ _ => rfl) (fun _ => rfl)
theorem cE_sR (w : WX) (M : Mem) (a k : Nat) (v : Option Nat) : cE w (sR M a k v) = va_up (cE w M) a (cE w (sR M a k v) a) := cE_up (fun _ _ => rfl) (fun _ _ => rfl) (fun _ h => up2_n h) (fun _ => rfl)
theorem cE_aI (w : WX) (M : Mem) (a : Nat) (g : Nat → Int32) : cE w (aI M a g) = va_up (cE w M) a (cE w (aI M a g) a) := cE_up (fun _ h => va_up_ne _ _ h) (fun _ _ => rfl) (fun _ _ => rfl) (fun _ => rfl)
theorem cE_aJ (w : WX) (M : Mem) (a : Nat) (g : Nat → Int64) : cE w (aJ M a g) = va_up (cE w M) a (cE w (aJ M a g) a) := cE_up (fun _ _ => rfl) (fun _ h => va_up_ne _ _ h) (fun _ _ => rfl) (fun _ => rfl)
theorem Wat.ate {w : WX} {a kd n : Nat} (h : Wat w a kd n) (M : Mem) : cE w M a = cEk w M a kd n := by
  show cEk w M a (wG w a).1 (wG w a).2 = _
  rw [h.2]
theorem wcl_get {w : WX} {M : Mem} {a : Nat} (h : a ∈ wdom w) : ∃ k : Nat, (wcl w M)[k]? = some (a, cE w M a) := va_pl_get (X := []) (f := cE w M) h
theorem wcl_set {w : WX} {M M' : Mem} {A : Nat → Prop} {a k : Nat} {e : va_E} (hD : va_D A (wcl w M)) (h : a ∈ wdom w) (hk : (wcl w M)[k]? = some (a, cE w M a)) (he : cE w M' = va_up (cE w M) a (cE w M' a)) (h2 : cE w M' a = e) : (wcl w M).set k (a, e) = wcl w M' := by
  have := va_pl_set (X := []) (e := e) hD h hk
  show ([] ++ va_pl (wdom w) (cE w M)).set k (a, e) = _
  rw [this, List.nil_append, ← h2, ← he]
theorem fs_get {ci N : Nat} {M : Mem} {a k : Nat} (h : k < N) : ((List.range N).map (fv ci M a))[k]? = some (fv ci M a k) := by
  rw [List.getElem?_map, List.getElem?_range h]; rfl
theorem fs_set {ci N : Nat} {M M' : Mem} {a k : Nat} {v : Value} (h : fv ci M' a k = v) (ho : ∀ j, j ≠ k → fv ci M' a j = fv ci M a j) : ((List.range N).map (fv ci M a)).set k v = (List.range N).map (fv ci M' a) := by
  apply List.ext_getElem?
  intro j
  rw [List.getElem?_set]
  by_cases hj : k = j
  · subst hj
    rw [if_pos rfl, List.length_map, List.length_range]
    by_cases hk : k < N
    · rw [if_pos hk, fs_get hk, h]
    · rw [if_neg hk, List.getElem?_eq_none (by rw [List.length_map, List.length_range]; omega)]
  · rw [if_neg hj, List.getElem?_map, List.getElem?_map]
    cases hr : (List.range N)[j]? with
    | none => rfl
    | some i =>
      obtain ⟨h1, h2⟩ := List.getElem?_eq_some_iff.mp hr
      rw [List.getElem_range] at h2
      subst h2
      simp only [Option.map_some]
      rw [ho j (fun q => hj q.symm)]
theorem WT.I {w : WX} {M M' : Mem} (h : WT w M) (hr : ∀ a, mR M' a = mR M a) : WT w M' := by
  intro a kd n ha k kd' b hm hb
  rw [hr a] at hb
  exact h a kd n ha k kd' b hm hb
theorem WT.R {w : WX} {M : Mem} {a kd n k : Nat} {v : Option Nat} (h : WT w M) (ha : Wat w a kd n) (hv : ∀ kd' b, mtk kd k = some kd' → v = some b → Wat w b kd' 0) : WT w (sR M a k v) := by
  intro a' kd1 n1 ha1 k1 kd' b hm hb
  by_cases h1 : a' = a
  · subst h1
    have e : (kd1, n1) = (kd, n) := ha1.2.symm.trans ha.2
    cases e
    by_cases h2 : k1 = k
    · subst h2
      refine hv kd' b hm ?_
      rw [← hb]
      show v = up2 M.2.2.1 a' k1 v a' k1
      rw [up2_s]
      exact (va_up_self _ _ _).symm
    · refine h a' kd n ha k1 kd' b hm ?_
      rw [← hb]
      show M.2.2.1 a' k1 = up2 M.2.2.1 a' k v a' k1
      rw [up2_s]
      exact (va_up_ne _ _ h2).symm
  · refine h a' kd1 n1 ha1 k1 kd' b hm ?_
    rw [← hb]
    show M.2.2.1 a' k1 = up2 M.2.2.1 a k v a' k1
    rw [up2_n h1]

abbrev MX : Type := Program × Launch × Env × Room × State × MethodId × Array Value × List Frame × Method × Code × Nat × Nat
abbrev xp (x : MX) : Program := x.1
abbrev xl (x : MX) : Launch := x.2.1
abbrev xe (x : MX) : Env := x.2.2.1
abbrev xR (x : MX) : Room := x.2.2.2.1
abbrev xs_ (x : MX) : State := x.2.2.2.2.1
abbrev xm (x : MX) : MethodId := x.2.2.2.2.2.1
abbrev xa (x : MX) : Array Value := x.2.2.2.2.2.2.1
abbrev xb (x : MX) : List Frame := x.2.2.2.2.2.2.2.1
abbrev xt (x : MX) : Method := x.2.2.2.2.2.2.2.2.1
abbrev xc (x : MX) : Code := x.2.2.2.2.2.2.2.2.2.1
/-- how many cells and slots are new here -/
abbrev xk (x : MX) : Nat := x.2.2.2.2.2.2.2.2.2.2.1
abbrev xn (x : MX) : Nat := x.2.2.2.2.2.2.2.2.2.2.2
def rmv (fr lo : Nat) : Room := { frames := fr, cells := 0, slots := 0, locals := lo }
/-- behind a method: its answer, what our cells hold, nothing else changed -/
def QcW (w : WX) (v : Option Value) (M : Mem) : Array Value → State → Outcome → State → Prop := fun _ st oc t => oc = .returned v ∧ Hol w M t.heap ∧ va_F (A0 w) st t
def PcW (w : WX) (avs : List Value) (M : Mem) : Array Value → State → Prop := fun a U => a = avs.toArray ∧ Hol w M U.heap ∧ Fix w U
/-- a method's contract: where the function tells an answer, the machine comes to it -/
def Ct {τ : Type} (l : Launch) (w : WX) (y : MethodName) (cc : ByteArray) (nL : Nat) (ret : Option FieldType) (fr lo : Nat) (ev : τ → Option Value) (em : τ → Mem) (avs : List Value) (M : Mem) (f : Option τ) : Prop :=
  ∀ t, f = some t → Met l y (Cond.code y cc nL ret :: UW) (rmv fr lo) (PcW w avs M) (QcW w (ev t) (em t)) 0 0 (A0 w)
def Ok (own : String) (nL : Nat) (ret : Option FieldType) (fr lo : Nat) (w : WX) (x : MX) : Prop :=
  (xp x).tables.exec = Jvm.exec ∧ (xs_ x).vm.findClass own = some (xm x).cls ∧ (∀ q ∈ UW, q.before (xa x) (xs_ x) = true) ∧ Fix w (xs_ x) ∧ (xt x).sig.returnType = ret ∧ (xt x).locks = false ∧ ((xR x).frames = fr ∧ (xR x).locals = lo ∧ xk x ≤ (xR x).cells ∧ xn x ≤ (xR x).slots) ∧ (xc x).maxLocals = nL
def C {τ : Type} (x : MX) (w : WX) (Q : τ → State → Prop) (nL pc : Nat) (L : List (Nat × Value)) (st : List Value) (M : Mem) (f : Option τ) : Prop :=
  ∀ t, f = some t → ∀ (H : Heap) (locs : List Loc) (ls : Array Slot), Hol w M H → va_S (A0 w) (xs_ x).heap H locs → lv_has ls nL L →
    W (xp x) (xl x) (xe x) (xR x) (xs_ x) (xm x) (xa x) (xb x) (xt x) (xc x) H locs (xk x) (xn x) (Q t) (F0 (xm x) pc ls st)
/-- a plain method's end -/
def Qn {τ : Type} (x : MX) (w : WX) (ev : τ → Option Value) (em : τ → Mem) : τ → State → Prop := fun t => MQ (xb x) (QcW w (ev t) (em t)) (xa x) (xs_ x) 0 0 (A0 w)
theorem inb_in {i : Int32} {n : Nat} (h : inb i n = true) : vp_in i n := by
  simp only [inb, Bool.and_eq_true, Bool.not_eq_true', decide_eq_false_iff_not, decide_eq_true_eq] at h
  rintro (q | q)
  · exact h.1 q
  · exact Nat.not_le.mpr h.2 q
section RW
variable {τ : Type} {own : String} {nL fr lo : Nat} {ret : Option FieldType} {w : WX} {x : MX} {Q : τ → State → Prop} {pc : Nat} {L L' : List (Nat × Value)} {rest : List Value} {M : Mem} {f : Option τ}
theorem r_gd {b : Bool} {k : Option τ} {st : List Value} (h : b = true → C x w Q nL pc L st M k) : C x w Q nL pc L st M (gd b k) := by
  intro t ht
  unfold gd at ht
  by_cases hb : b = true
  · rw [if_pos hb] at ht
    exact h hb t ht
  · rw [if_neg hb] at ht
    cases ht
theorem r_nm {α : Type} {e : α} {k : α → Option τ} {st : List Value} (h : C x w Q nL pc L st M (k e)) : C x w Q nL pc L st M (nm e k) := h
theorem r_nmI {e : Int32} {k : Int32 → Option τ} (h : ∀ v, C x w Q nL pc L (.int v :: rest) M (k v)) : C x w Q nL pc L (.int e :: rest) M (nm e k) := h e
theorem r_nmJ {e : Int64} {k : Int64 → Option τ} (h : ∀ v, C x w Q nL pc L (.long v :: rest) M (k v)) : C x w Q nL pc L (.long e :: rest) M (nm e k) := h e
theorem r_nmR {e : Option Nat} {k : Option Nat → Option τ} (h : ∀ v, v = e → C x w Q nL pc L (va_rf v :: rest) M (k v)) : C x w Q nL pc L (va_rf e :: rest) M (nm e k) := h e rfl
theorem r_bd {α : Type} {e : Option α} {k : α → Option τ} {st : List Value} (h : ∀ b, e = some b → C x w Q nL pc L st M (k b)) : C x w Q nL pc L st M (e.bind k) := by
  intro t ht
  cases he : e with
  | none => rw [he] at ht; cases ht
  | some b => rw [he] at ht; exact h b he t ht
theorem r_jn {α : Type} {k : α → Option τ} {b : (α → Option τ) → Option τ} {st : List Value} (pj : Nat) (Lf : α → List (Nat × Value)) (sf : α → List Value) (Mf : α → Mem) (hk : ∀ a, C x w Q nL pj (Lf a) (sf a) (Mf a) (k a)) (hb : ∀ j : α → Option τ, (∀ a, C x w Q nL pj (Lf a) (sf a) (Mf a) (j a)) → C x w Q nL pc L st M (b j)) : C x w Q nL pc L st M (jn k b) := hb k hk
theorem r_lp {σ : Type} {step : σ → (σ → Option τ) → Option τ} (Lf : σ → List (Nat × Value)) (sf : σ → List Value) (Mf : σ → Mem) (hs : ∀ s (rec : σ → Option τ), (∀ s', C x w Q nL pc (Lf s') (sf s') (Mf s') (rec s')) → C x w Q nL pc (Lf s) (sf s) (Mf s) (step s rec)) (n : Nat) : ∀ s, C x w Q nL pc (Lf s) (sf s) (Mf s) (lp step n s) := by
  induction n with
  | zero => intro s t ht; cases ht
  | succ n ih => intro s; exact hs s (lp step n) ih
theorem r_sub {st : List Value} (ks : List Nat) (hl : lv_pick L ks = L') (k : C x w Q nL pc L' st M f) : C x w Q nL pc L st M f := fun t ht H locs ls hH hS hl2 => k t ht H locs ls hH hS (lv_sub hl2 ks hl)
theorem r_if {c : Prop} [Decidable c] {a b : Option τ} {t : τ} (h : (if c then a else b) = some t) : (c ∧ a = some t) ∨ (¬ c ∧ b = some t) := by
  by_cases hc : c
  · rw [if_pos hc] at h; exact Or.inl ⟨hc, h⟩
  · rw [if_neg hc] at h; exact Or.inr ⟨hc, h⟩

theorem r_iconst {n : Int} {v : Int32} {pc' : Nat} (hx : Ok own nL ret fr lo w x) (hdg : decode (xc x).code pc = .ok (.iconst n, 1)) (hv : Int32.ofInt n = v) (hp : pc + 1 = pc') (k : C x w Q nL pc' L (.int v :: rest) M f) : C x w Q nL pc L (rest) M f := by
  subst hp
  exact fun t ht H locs ls hH hS hl => lv_iconst hx.1 rfl hdg hv (k t ht H locs ls hH hS hl)
theorem r_bipush {n : Int} {v : Int32} {pc' : Nat} (hx : Ok own nL ret fr lo w x) (hdg : decode (xc x).code pc = .ok (.bipush n, 2)) (hv : (Int8.ofInt n).toInt32 = v) (hp : pc + 2 = pc') (k : C x w Q nL pc' L (.int v :: rest) M f) : C x w Q nL pc L (rest) M f := by
  subst hp
  exact fun t ht H locs ls hH hS hl => lv_bipush hx.1 rfl hdg hv (k t ht H locs ls hH hS hl)
theorem r_sipush {n : Int} {v : Int32} {pc' : Nat} (hx : Ok own nL ret fr lo w x) (hdg : decode (xc x).code pc = .ok (.sipush n, 3)) (hv : (Int16.ofInt n).toInt32 = v) (hp : pc + 3 = pc') (k : C x w Q nL pc' L (.int v :: rest) M f) : C x w Q nL pc L (rest) M f := by
  subst hp
  exact fun t ht H locs ls hH hS hl => lv_sipush hx.1 rfl hdg hv (k t ht H locs ls hH hS hl)
theorem r_lconst {n : Fin 2} {v : Int64} {pc' : Nat} (hx : Ok own nL ret fr lo w x) (hdg : decode (xc x).code pc = .ok (.lconst n, 1)) (hv : Int64.ofNat (n : Nat) = v) (hp : pc + 1 = pc') (k : C x w Q nL pc' L (.long v :: rest) M f) : C x w Q nL pc L (rest) M f := by
  subst hp
  exact fun t ht H locs ls hH hS hl => lv_lconst hx.1 rfl hdg hv (k t ht H locs ls hH hS hl)
theorem r_iload {i : Nat} {v : Int32} {pc' : Nat} (hx : Ok own nL ret fr lo w x) (hdg : decode (xc x).code pc = .ok (.iload i, 2)) (j : Nat) (hj : L[j]? = some (i, .int v)) (hp : pc + 2 = pc') (k : C x w Q nL pc' L (.int v :: rest) M f) : C x w Q nL pc L (rest) M f := by
  subst hp
  exact fun t ht H locs ls hH hS hl => lv_iload hx.1 rfl hdg (lv_at hl j hj) (k t ht H locs ls hH hS hl)
theorem r_iload_n {q : Fin 4} {i : Nat} {v : Int32} {pc' : Nat} (hx : Ok own nL ret fr lo w x) (hdg : decode (xc x).code pc = .ok (.iload_n q, 1)) (hi : (q : Nat) = i) (j : Nat) (hj : L[j]? = some (i, .int v)) (hp : pc + 1 = pc') (k : C x w Q nL pc' L (.int v :: rest) M f) : C x w Q nL pc L (rest) M f := by
  subst hp
  exact fun t ht H locs ls hH hS hl => lv_iload_n hx.1 rfl hdg hi (lv_at hl j hj) (k t ht H locs ls hH hS hl)
theorem r_lload {i : Nat} {v : Int64} {pc' : Nat} (hx : Ok own nL ret fr lo w x) (hdg : decode (xc x).code pc = .ok (.lload i, 2)) (j : Nat) (hj : L[j]? = some (i, .long v)) (hp : pc + 2 = pc') (k : C x w Q nL pc' L (.long v :: rest) M f) : C x w Q nL pc L (rest) M f := by
  subst hp
  exact fun t ht H locs ls hH hS hl => lv_lload hx.1 rfl hdg (lv_at hl j hj) (k t ht H locs ls hH hS hl)
theorem r_lload_n {q : Fin 4} {i : Nat} {v : Int64} {pc' : Nat} (hx : Ok own nL ret fr lo w x) (hdg : decode (xc x).code pc = .ok (.lload_n q, 1)) (hi : (q : Nat) = i) (j : Nat) (hj : L[j]? = some (i, .long v)) (hp : pc + 1 = pc') (k : C x w Q nL pc' L (.long v :: rest) M f) : C x w Q nL pc L (rest) M f := by
  subst hp
  exact fun t ht H locs ls hH hS hl => lv_lload_n hx.1 rfl hdg hi (lv_at hl j hj) (k t ht H locs ls hH hS hl)
theorem r_aload {i a : Nat} {pc' : Nat} (hx : Ok own nL ret fr lo w x) (hdg : decode (xc x).code pc = .ok (.aload i, 2)) (j : Nat) (hj : L[j]? = some (i, .ref a)) (hp : pc + 2 = pc') (k : C x w Q nL pc' L (.ref a :: rest) M f) : C x w Q nL pc L (rest) M f := by
  subst hp
  exact fun t ht H locs ls hH hS hl => lv_aload hx.1 rfl hdg (lv_at hl j hj) (k t ht H locs ls hH hS hl)
theorem r_aload_n {q : Fin 4} {i a : Nat} {pc' : Nat} (hx : Ok own nL ret fr lo w x) (hdg : decode (xc x).code pc = .ok (.aload_n q, 1)) (hi : (q : Nat) = i) (j : Nat) (hj : L[j]? = some (i, .ref a)) (hp : pc + 1 = pc') (k : C x w Q nL pc' L (.ref a :: rest) M f) : C x w Q nL pc L (rest) M f := by
  subst hp
  exact fun t ht H locs ls hH hS hl => lv_aload_n hx.1 rfl hdg hi (lv_at hl j hj) (k t ht H locs ls hH hS hl)
theorem r_aloadN {i : Nat} {r : Option Nat} {pc' : Nat} (hx : Ok own nL ret fr lo w x) (hdg : decode (xc x).code pc = .ok (.aload i, 2)) (j : Nat) (hj : L[j]? = some (i, va_rf r)) (hp : pc + 2 = pc') (k : C x w Q nL pc' L (va_rf r :: rest) M f) : C x w Q nL pc L rest M f := by
  subst hp
  intro t ht H locs ls hH hS hl
  have k := k t ht H locs ls hH hS hl
  have h := lv_at hl j hj
  cases r with
  | none => exact lv_aloadN hx.1 rfl hdg h k
  | some a => exact lv_aload hx.1 rfl hdg h k
theorem r_aload_nN {q : Fin 4} {i : Nat} {r : Option Nat} {pc' : Nat} (hx : Ok own nL ret fr lo w x) (hdg : decode (xc x).code pc = .ok (.aload_n q, 1)) (hi : (q : Nat) = i) (j : Nat) (hj : L[j]? = some (i, va_rf r)) (hp : pc + 1 = pc') (k : C x w Q nL pc' L (va_rf r :: rest) M f) : C x w Q nL pc L rest M f := by
  subst hp
  intro t ht H locs ls hH hS hl
  have k := k t ht H locs ls hH hS hl
  have h := lv_at hl j hj
  cases r with
  | none => exact lv_aload_nN hx.1 rfl hdg hi h k
  | some a => exact lv_aload_n hx.1 rfl hdg hi h k
theorem r_istore {i : Nat} {v : Int32} {pc' : Nat} (hx : Ok own nL ret fr lo w x) (hdg : decode (xc x).code pc = .ok (.istore i, 2)) (hn : i < nL) (hl : (i, Value.int v) :: L.filter (fun q => !(q.1 == i) && !(q.1 + 1 == i && q.2.category == 2)) = L') (hp : pc + 2 = pc') (k : C x w Q nL pc' L' rest M f) : C x w Q nL pc L (Value.int v :: rest) M f := by
  subst hp
  exact fun t ht H locs ls hH hS h => lv_istore hx.1 rfl hdg h hn hl (fun ls' h' => k t ht H locs ls' hH hS h')
theorem r_istore_n {i : Nat} {v : Int32} {q : Fin 4} {pc' : Nat} (hx : Ok own nL ret fr lo w x) (hdg : decode (xc x).code pc = .ok (.istore_n q, 1)) (hi : (q : Nat) = i) (hn : i < nL) (hl : (i, Value.int v) :: L.filter (fun q => !(q.1 == i) && !(q.1 + 1 == i && q.2.category == 2)) = L') (hp : pc + 1 = pc') (k : C x w Q nL pc' L' rest M f) : C x w Q nL pc L (Value.int v :: rest) M f := by
  subst hp
  exact fun t ht H locs ls hH hS h => lv_istore_n hx.1 rfl hdg hi h hn hl (fun ls' h' => k t ht H locs ls' hH hS h')
theorem r_lstore {i : Nat} {v : Int64} {pc' : Nat} (hx : Ok own nL ret fr lo w x) (hdg : decode (xc x).code pc = .ok (.lstore i, 2)) (hn : i + 1 < nL) (hl : (i, Value.long v) :: L.filter (fun q => !(q.1 == i) && (!(q.1 == i + 1) && !(q.1 + 1 == i && q.2.category == 2))) = L') (hp : pc + 2 = pc') (k : C x w Q nL pc' L' rest M f) : C x w Q nL pc L (Value.long v :: rest) M f := by
  subst hp
  exact fun t ht H locs ls hH hS h => lv_lstore hx.1 rfl hdg h hn hl (fun ls' h' => k t ht H locs ls' hH hS h')
theorem r_lstore_n {i : Nat} {v : Int64} {q : Fin 4} {pc' : Nat} (hx : Ok own nL ret fr lo w x) (hdg : decode (xc x).code pc = .ok (.lstore_n q, 1)) (hi : (q : Nat) = i) (hn : i + 1 < nL) (hl : (i, Value.long v) :: L.filter (fun q => !(q.1 == i) && (!(q.1 == i + 1) && !(q.1 + 1 == i && q.2.category == 2))) = L') (hp : pc + 1 = pc') (k : C x w Q nL pc' L' rest M f) : C x w Q nL pc L (Value.long v :: rest) M f := by
  subst hp
  exact fun t ht H locs ls hH hS h => lv_lstore_n hx.1 rfl hdg hi h hn hl (fun ls' h' => k t ht H locs ls' hH hS h')
theorem r_astore {i v : Nat} {pc' : Nat} (hx : Ok own nL ret fr lo w x) (hdg : decode (xc x).code pc = .ok (.astore i, 2)) (hn : i < nL) (hl : (i, Value.ref v) :: L.filter (fun q => !(q.1 == i) && !(q.1 + 1 == i && q.2.category == 2)) = L') (hp : pc + 2 = pc') (k : C x w Q nL pc' L' rest M f) : C x w Q nL pc L (Value.ref v :: rest) M f := by
  subst hp
  exact fun t ht H locs ls hH hS h => lv_astore hx.1 rfl hdg h hn hl (fun ls' h' => k t ht H locs ls' hH hS h')
theorem r_astore_n {i v : Nat} {q : Fin 4} {pc' : Nat} (hx : Ok own nL ret fr lo w x) (hdg : decode (xc x).code pc = .ok (.astore_n q, 1)) (hi : (q : Nat) = i) (hn : i < nL) (hl : (i, Value.ref v) :: L.filter (fun q => !(q.1 == i) && !(q.1 + 1 == i && q.2.category == 2)) = L') (hp : pc + 1 = pc') (k : C x w Q nL pc' L' rest M f) : C x w Q nL pc L (Value.ref v :: rest) M f := by
  subst hp
  exact fun t ht H locs ls hH hS h => lv_astore_n hx.1 rfl hdg hi h hn hl (fun ls' h' => k t ht H locs ls' hH hS h')
theorem r_astoreN {i : Nat} {v : Option Nat} {pc' : Nat} (hx : Ok own nL ret fr lo w x) (hdg : decode (xc x).code pc = .ok (.astore i, 2)) (hn : i < nL) (hl : (i, va_rf v) :: L.filter (fun q => !(q.1 == i) && !(q.1 + 1 == i && q.2.category == 2)) = L') (hp : pc + 2 = pc') (k : C x w Q nL pc' L' rest M f) : C x w Q nL pc L (va_rf v :: rest) M f := by
  subst hp
  intro t ht H locs ls hH hS h
  cases v with
  | none => exact lv_astoreN hx.1 rfl hdg h hn hl (fun ls' h' => k t ht H locs ls' hH hS h')
  | some a => exact lv_astore hx.1 rfl hdg h hn hl (fun ls' h' => k t ht H locs ls' hH hS h')
theorem r_astore_nN {q : Fin 4} {i : Nat} {v : Option Nat} {pc' : Nat} (hx : Ok own nL ret fr lo w x) (hdg : decode (xc x).code pc = .ok (.astore_n q, 1)) (hi : (q : Nat) = i) (hn : i < nL) (hl : (i, va_rf v) :: L.filter (fun q => !(q.1 == i) && !(q.1 + 1 == i && q.2.category == 2)) = L') (hp : pc + 1 = pc') (k : C x w Q nL pc' L' rest M f) : C x w Q nL pc L (va_rf v :: rest) M f := by
  subst hp
  intro t ht H locs ls hH hS h
  cases v with
  | none => exact lv_astore_nN hx.1 rfl hdg hi h hn hl (fun ls' h' => k t ht H locs ls' hH hS h')
  | some a => exact lv_astore_n hx.1 rfl hdg hi h hn hl (fun ls' h' => k t ht H locs ls' hH hS h')
theorem r_iinc {i : Nat} {n : Int} {u v : Int32} {f : Int32 → Option τ} {pc' : Nat} (hx : Ok own nL ret fr lo w x) (hdg : decode (xc x).code pc = .ok (.iinc i n, 3)) (j : Nat) (hj : L[j]? = some (i, .int u)) (hv : Int32.ofInt n = v) (hn : i < nL) (L' : Int32 → List (Nat × Value)) (hl : ∀ z, (i, Value.int z) :: L.filter (fun q => !(q.1 == i) && !(q.1 + 1 == i && q.2.category == 2)) = L' z) (hp : pc + 3 = pc') (k : ∀ z, C x w Q nL pc' (L' z) rest M (f z)) : C x w Q nL pc L rest M (nm (u + v) f) := by
  subst hp
  exact fun t ht H locs ls hH hS h => lv_iinc hx.1 rfl hdg h hj (by rw [hv]) hn (hl _) (fun ls' h' => k _ t ht H locs ls' hH hS h')
theorem r_iadd {x1 y1 : Int32} {pc' : Nat} (hx : Ok own nL ret fr lo w x) (hdg : decode (xc x).code pc = .ok (.iadd, 1)) (hp : pc + 1 = pc') (k : C x w Q nL pc' L (.int (x1 + y1) :: rest) M f) : C x w Q nL pc L (.int y1 :: .int x1 :: rest) M f := by
  subst hp
  exact fun t ht H locs ls hH hS hl => lv_iadd hx.1 rfl hdg (k t ht H locs ls hH hS hl)
theorem r_isub {x1 y1 : Int32} {pc' : Nat} (hx : Ok own nL ret fr lo w x) (hdg : decode (xc x).code pc = .ok (.isub, 1)) (hp : pc + 1 = pc') (k : C x w Q nL pc' L (.int (x1 - y1) :: rest) M f) : C x w Q nL pc L (.int y1 :: .int x1 :: rest) M f := by
  subst hp
  exact fun t ht H locs ls hH hS hl => lv_isub hx.1 rfl hdg (k t ht H locs ls hH hS hl)
theorem r_imul {x1 y1 : Int32} {pc' : Nat} (hx : Ok own nL ret fr lo w x) (hdg : decode (xc x).code pc = .ok (.imul, 1)) (hp : pc + 1 = pc') (k : C x w Q nL pc' L (.int (x1 * y1) :: rest) M f) : C x w Q nL pc L (.int y1 :: .int x1 :: rest) M f := by
  subst hp
  exact fun t ht H locs ls hH hS hl => lv_imul hx.1 rfl hdg (k t ht H locs ls hH hS hl)
theorem r_iand {x1 y1 : Int32} {pc' : Nat} (hx : Ok own nL ret fr lo w x) (hdg : decode (xc x).code pc = .ok (.iand, 1)) (hp : pc + 1 = pc') (k : C x w Q nL pc' L (.int (x1 &&& y1) :: rest) M f) : C x w Q nL pc L (.int y1 :: .int x1 :: rest) M f := by
  subst hp
  exact fun t ht H locs ls hH hS hl => lv_iand hx.1 rfl hdg (k t ht H locs ls hH hS hl)
theorem r_ior {x1 y1 : Int32} {pc' : Nat} (hx : Ok own nL ret fr lo w x) (hdg : decode (xc x).code pc = .ok (.ior, 1)) (hp : pc + 1 = pc') (k : C x w Q nL pc' L (.int (x1 ||| y1) :: rest) M f) : C x w Q nL pc L (.int y1 :: .int x1 :: rest) M f := by
  subst hp
  exact fun t ht H locs ls hH hS hl => lv_ior hx.1 rfl hdg (k t ht H locs ls hH hS hl)
theorem r_ixor {x1 y1 : Int32} {pc' : Nat} (hx : Ok own nL ret fr lo w x) (hdg : decode (xc x).code pc = .ok (.ixor, 1)) (hp : pc + 1 = pc') (k : C x w Q nL pc' L (.int (x1 ^^^ y1) :: rest) M f) : C x w Q nL pc L (.int y1 :: .int x1 :: rest) M f := by
  subst hp
  exact fun t ht H locs ls hH hS hl => lv_ixor hx.1 rfl hdg (k t ht H locs ls hH hS hl)
theorem r_ishl {x1 y1 : Int32} {pc' : Nat} (hx : Ok own nL ret fr lo w x) (hdg : decode (xc x).code pc = .ok (.ishl, 1)) (hp : pc + 1 = pc') (k : C x w Q nL pc' L (.int (x1 <<< (y1 &&& 31)) :: rest) M f) : C x w Q nL pc L (.int y1 :: .int x1 :: rest) M f := by
  subst hp
  exact fun t ht H locs ls hH hS hl => lv_ishl hx.1 rfl hdg (k t ht H locs ls hH hS hl)
theorem r_ishr {x1 y1 : Int32} {pc' : Nat} (hx : Ok own nL ret fr lo w x) (hdg : decode (xc x).code pc = .ok (.ishr, 1)) (hp : pc + 1 = pc') (k : C x w Q nL pc' L (.int (x1 >>> (y1 &&& 31)) :: rest) M f) : C x w Q nL pc L (.int y1 :: .int x1 :: rest) M f := by
  subst hp
  exact fun t ht H locs ls hH hS hl => lv_ishr hx.1 rfl hdg (k t ht H locs ls hH hS hl)
theorem r_iushr {x1 y1 : Int32} {pc' : Nat} (hx : Ok own nL ret fr lo w x) (hdg : decode (xc x).code pc = .ok (.iushr, 1)) (hp : pc + 1 = pc') (k : C x w Q nL pc' L (.int ((x1.toUInt32 >>> (y1.toUInt32 &&& Int32.toUInt32 31)).toInt32) :: rest) M f) : C x w Q nL pc L (.int y1 :: .int x1 :: rest) M f := by
  subst hp
  exact fun t ht H locs ls hH hS hl => lv_iushr hx.1 rfl hdg rfl (k t ht H locs ls hH hS hl)
theorem r_idiv {x1 y1 : Int32} {pc' : Nat} (hx : Ok own nL ret fr lo w x) (hdg : decode (xc x).code pc = .ok (.idiv, 1)) (hne : ¬ y1 = 0) (hp : pc + 1 = pc') (k : C x w Q nL pc' L (.int (x1 / y1) :: rest) M f) : C x w Q nL pc L (.int y1 :: .int x1 :: rest) M f := by
  subst hp
  exact fun t ht H locs ls hH hS hl => lv_idiv hx.1 rfl hdg hne (k t ht H locs ls hH hS hl)
theorem r_irem {x1 y1 : Int32} {pc' : Nat} (hx : Ok own nL ret fr lo w x) (hdg : decode (xc x).code pc = .ok (.irem, 1)) (hne : ¬ y1 = 0) (hp : pc + 1 = pc') (k : C x w Q nL pc' L (.int (irm x1 y1) :: rest) M f) : C x w Q nL pc L (.int y1 :: .int x1 :: rest) M f := by
  subst hp
  exact fun t ht H locs ls hH hS hl => lv_irem hx.1 rfl hdg hne (k t ht H locs ls hH hS hl)
theorem r_ineg {x1 : Int32} {pc' : Nat} (hx : Ok own nL ret fr lo w x) (hdg : decode (xc x).code pc = .ok (.ineg, 1)) (hp : pc + 1 = pc') (k : C x w Q nL pc' L (.int (-x1) :: rest) M f) : C x w Q nL pc L (.int x1 :: rest) M f := by
  subst hp
  exact fun t ht H locs ls hH hS hl => lv_ineg hx.1 rfl hdg (k t ht H locs ls hH hS hl)
theorem r_ladd {x1 y1 : Int64} {pc' : Nat} (hx : Ok own nL ret fr lo w x) (hdg : decode (xc x).code pc = .ok (.ladd, 1)) (hp : pc + 1 = pc') (k : C x w Q nL pc' L (.long (x1 + y1) :: rest) M f) : C x w Q nL pc L (.long y1 :: .long x1 :: rest) M f := by
  subst hp
  exact fun t ht H locs ls hH hS hl => lv_ladd hx.1 rfl hdg (k t ht H locs ls hH hS hl)
theorem r_lsub {x1 y1 : Int64} {pc' : Nat} (hx : Ok own nL ret fr lo w x) (hdg : decode (xc x).code pc = .ok (.lsub, 1)) (hp : pc + 1 = pc') (k : C x w Q nL pc' L (.long (x1 - y1) :: rest) M f) : C x w Q nL pc L (.long y1 :: .long x1 :: rest) M f := by
  subst hp
  exact fun t ht H locs ls hH hS hl => lv_lsub hx.1 rfl hdg (k t ht H locs ls hH hS hl)
theorem r_lmul {x1 y1 : Int64} {pc' : Nat} (hx : Ok own nL ret fr lo w x) (hdg : decode (xc x).code pc = .ok (.lmul, 1)) (hp : pc + 1 = pc') (k : C x w Q nL pc' L (.long (x1 * y1) :: rest) M f) : C x w Q nL pc L (.long y1 :: .long x1 :: rest) M f := by
  subst hp
  exact fun t ht H locs ls hH hS hl => lv_lmul hx.1 rfl hdg (k t ht H locs ls hH hS hl)
theorem r_land {x1 y1 : Int64} {pc' : Nat} (hx : Ok own nL ret fr lo w x) (hdg : decode (xc x).code pc = .ok (.land, 1)) (hp : pc + 1 = pc') (k : C x w Q nL pc' L (.long (x1 &&& y1) :: rest) M f) : C x w Q nL pc L (.long y1 :: .long x1 :: rest) M f := by
  subst hp
  exact fun t ht H locs ls hH hS hl => lv_land hx.1 rfl hdg (k t ht H locs ls hH hS hl)
theorem r_lor {x1 y1 : Int64} {pc' : Nat} (hx : Ok own nL ret fr lo w x) (hdg : decode (xc x).code pc = .ok (.lor, 1)) (hp : pc + 1 = pc') (k : C x w Q nL pc' L (.long (x1 ||| y1) :: rest) M f) : C x w Q nL pc L (.long y1 :: .long x1 :: rest) M f := by
  subst hp
  exact fun t ht H locs ls hH hS hl => lv_lor hx.1 rfl hdg (k t ht H locs ls hH hS hl)
theorem r_lxor {x1 y1 : Int64} {pc' : Nat} (hx : Ok own nL ret fr lo w x) (hdg : decode (xc x).code pc = .ok (.lxor, 1)) (hp : pc + 1 = pc') (k : C x w Q nL pc' L (.long (x1 ^^^ y1) :: rest) M f) : C x w Q nL pc L (.long y1 :: .long x1 :: rest) M f := by
  subst hp
  exact fun t ht H locs ls hH hS hl => lv_lxor hx.1 rfl hdg (k t ht H locs ls hH hS hl)
theorem r_ldiv {x1 y1 : Int64} {pc' : Nat} (hx : Ok own nL ret fr lo w x) (hdg : decode (xc x).code pc = .ok (.ldiv, 1)) (hne : ¬ y1 = 0) (hp : pc + 1 = pc') (k : C x w Q nL pc' L (.long (x1 / y1) :: rest) M f) : C x w Q nL pc L (.long y1 :: .long x1 :: rest) M f := by
  subst hp
  exact fun t ht H locs ls hH hS hl => lv_ldiv hx.1 rfl hdg hne (k t ht H locs ls hH hS hl)
theorem r_lrem {x1 y1 : Int64} {pc' : Nat} (hx : Ok own nL ret fr lo w x) (hdg : decode (xc x).code pc = .ok (.lrem, 1)) (hne : ¬ y1 = 0) (hp : pc + 1 = pc') (k : C x w Q nL pc' L (.long (lrm x1 y1) :: rest) M f) : C x w Q nL pc L (.long y1 :: .long x1 :: rest) M f := by
  subst hp
  exact fun t ht H locs ls hH hS hl => lv_lrem hx.1 rfl hdg hne (k t ht H locs ls hH hS hl)
theorem r_lneg {x1 : Int64} {pc' : Nat} (hx : Ok own nL ret fr lo w x) (hdg : decode (xc x).code pc = .ok (.lneg, 1)) (hp : pc + 1 = pc') (k : C x w Q nL pc' L (.long (-x1) :: rest) M f) : C x w Q nL pc L (.long x1 :: rest) M f := by
  subst hp
  exact fun t ht H locs ls hH hS hl => lv_lneg hx.1 rfl hdg (k t ht H locs ls hH hS hl)
theorem r_i2l {x1 : Int32} {pc' : Nat} (hx : Ok own nL ret fr lo w x) (hdg : decode (xc x).code pc = .ok (.i2l, 1)) (hp : pc + 1 = pc') (k : C x w Q nL pc' L (.long x1.toInt64 :: rest) M f) : C x w Q nL pc L (.int x1 :: rest) M f := by
  subst hp
  exact fun t ht H locs ls hH hS hl => lv_i2l hx.1 rfl hdg rfl (k t ht H locs ls hH hS hl)
theorem r_l2i {x1 : Int64} {pc' : Nat} (hx : Ok own nL ret fr lo w x) (hdg : decode (xc x).code pc = .ok (.l2i, 1)) (hp : pc + 1 = pc') (k : C x w Q nL pc' L (.int x1.toInt32 :: rest) M f) : C x w Q nL pc L (.long x1 :: rest) M f := by
  subst hp
  exact fun t ht H locs ls hH hS hl => lv_l2i hx.1 rfl hdg rfl (k t ht H locs ls hH hS hl)
theorem r_lshl {x1 : Int64} {y1 : Int32} {pc' : Nat} (hx : Ok own nL ret fr lo w x) (hdg : decode (xc x).code pc = .ok (.lshl, 1)) (hp : pc + 1 = pc') (k : C x w Q nL pc' L (.long (x1 <<< (y1.toInt64 &&& 63)) :: rest) M f) : C x w Q nL pc L (.int y1 :: .long x1 :: rest) M f := by
  subst hp
  exact fun t ht H locs ls hH hS hl => lv_lshl hx.1 rfl hdg rfl (k t ht H locs ls hH hS hl)
theorem r_lshr {x1 : Int64} {y1 : Int32} {pc' : Nat} (hx : Ok own nL ret fr lo w x) (hdg : decode (xc x).code pc = .ok (.lshr, 1)) (hp : pc + 1 = pc') (k : C x w Q nL pc' L (.long (x1 >>> (y1.toInt64 &&& 63)) :: rest) M f) : C x w Q nL pc L (.int y1 :: .long x1 :: rest) M f := by
  subst hp
  exact fun t ht H locs ls hH hS hl => lv_lshr hx.1 rfl hdg rfl (k t ht H locs ls hH hS hl)
theorem r_lushr {x1 : Int64} {y1 : Int32} {pc' : Nat} (hx : Ok own nL ret fr lo w x) (hdg : decode (xc x).code pc = .ok (.lushr, 1)) (hp : pc + 1 = pc') (k : C x w Q nL pc' L (.long ((x1.toUInt64 >>> (y1.toInt64.toUInt64 &&& Int64.toUInt64 63)).toInt64) :: rest) M f) : C x w Q nL pc L (.int y1 :: .long x1 :: rest) M f := by
  subst hp
  exact fun t ht H locs ls hH hS hl => lv_lushr hx.1 rfl hdg rfl (k t ht H locs ls hH hS hl)
theorem r_dup {va : Value} {pc' : Nat} (hx : Ok own nL ret fr lo w x) (hdg : decode (xc x).code pc = .ok (.dup, 1)) (h1 : va.category = 1) (hp : pc + 1 = pc') (k : C x w Q nL pc' L (va :: va :: rest) M f) : C x w Q nL pc L (va :: rest) M f := by
  subst hp
  exact fun t ht H locs ls hH hS hl => lv_dup hx.1 rfl hdg h1 (k t ht H locs ls hH hS hl)
theorem r_pop {va : Value} {pc' : Nat} (hx : Ok own nL ret fr lo w x) (hdg : decode (xc x).code pc = .ok (.pop, 1)) (h1 : va.category = 1) (hp : pc + 1 = pc') (k : C x w Q nL pc' L (rest) M f) : C x w Q nL pc L (va :: rest) M f := by
  subst hp
  exact fun t ht H locs ls hH hS hl => lv_pop hx.1 rfl hdg h1 (k t ht H locs ls hH hS hl)
theorem r_dup2 {va vb : Value} {pc' : Nat} (hx : Ok own nL ret fr lo w x) (hdg : decode (xc x).code pc = .ok (.dup2, 1)) (h1 : va.category = 1) (h2 : vb.category = 1) (hp : pc + 1 = pc') (k : C x w Q nL pc' L (va :: vb :: va :: vb :: rest) M f) : C x w Q nL pc L (va :: vb :: rest) M f := by
  subst hp
  exact fun t ht H locs ls hH hS hl => lv_dup2_11 hx.1 rfl hdg h1 h2 (k t ht H locs ls hH hS hl)
theorem r_if_eq {x1 : Int32} {off : Int} {tgt : Nat} {g : Option τ} {pc' : Nat} (hx : Ok own nL ret fr lo w x) (hdg : decode (xc x).code pc = .ok (.ifCond .eq off, 3)) (ht : (pc : Int) + off = (tgt : Int)) (kt : x1 = 0 → C x w Q nL tgt L rest M f) (hp : pc + 3 = pc') (kf : ¬ (x1 = 0) → C x w Q nL pc' L rest M g) : C x w Q nL pc L (.int x1 :: rest) M (if x1 = 0 then f else g) := by
  subst hp
  intro t h H locs ls hH hS hl
  rcases r_if h with ⟨a, b⟩ | ⟨a, b⟩
  · exact lv_if_eq hx.1 rfl hdg ht (fun _ => kt a t b H locs ls hH hS hl) (fun q => absurd a q)
  · exact lv_if_eq hx.1 rfl hdg ht (fun q => absurd q a) (fun _ => kf a t b H locs ls hH hS hl)
theorem r_icmp_eq {x1 y1 : Int32} {off : Int} {tgt : Nat} {g : Option τ} {pc' : Nat} (hx : Ok own nL ret fr lo w x) (hdg : decode (xc x).code pc = .ok (.if_icmp .eq off, 3)) (ht : (pc : Int) + off = (tgt : Int)) (kt : x1 = y1 → C x w Q nL tgt L rest M f) (hp : pc + 3 = pc') (kf : ¬ (x1 = y1) → C x w Q nL pc' L rest M g) : C x w Q nL pc L (.int y1 :: .int x1 :: rest) M (if x1 = y1 then f else g) := by
  subst hp
  intro t h H locs ls hH hS hl
  rcases r_if h with ⟨a, b⟩ | ⟨a, b⟩
  · exact lv_icmp_eq hx.1 rfl hdg ht (fun _ => kt a t b H locs ls hH hS hl) (fun q => absurd a q)
  · exact lv_icmp_eq hx.1 rfl hdg ht (fun q => absurd q a) (fun _ => kf a t b H locs ls hH hS hl)
theorem r_if_ne {x1 : Int32} {off : Int} {tgt : Nat} {g : Option τ} {pc' : Nat} (hx : Ok own nL ret fr lo w x) (hdg : decode (xc x).code pc = .ok (.ifCond .ne off, 3)) (ht : (pc : Int) + off = (tgt : Int)) (kt : ¬ x1 = 0 → C x w Q nL tgt L rest M f) (hp : pc + 3 = pc') (kf : ¬ (¬ x1 = 0) → C x w Q nL pc' L rest M g) : C x w Q nL pc L (.int x1 :: rest) M (if ¬ x1 = 0 then f else g) := by
  subst hp
  intro t h H locs ls hH hS hl
  rcases r_if h with ⟨a, b⟩ | ⟨a, b⟩
  · exact lv_if_ne hx.1 rfl hdg ht (fun _ => kt a t b H locs ls hH hS hl) (fun q => absurd q (by first | exact fun z => z a | exact a))
  · exact lv_if_ne hx.1 rfl hdg ht (fun q => absurd q a) (fun _ => kf a t b H locs ls hH hS hl)
theorem r_icmp_ne {x1 y1 : Int32} {off : Int} {tgt : Nat} {g : Option τ} {pc' : Nat} (hx : Ok own nL ret fr lo w x) (hdg : decode (xc x).code pc = .ok (.if_icmp .ne off, 3)) (ht : (pc : Int) + off = (tgt : Int)) (kt : ¬ x1 = y1 → C x w Q nL tgt L rest M f) (hp : pc + 3 = pc') (kf : ¬ (¬ x1 = y1) → C x w Q nL pc' L rest M g) : C x w Q nL pc L (.int y1 :: .int x1 :: rest) M (if ¬ x1 = y1 then f else g) := by
  subst hp
  intro t h H locs ls hH hS hl
  rcases r_if h with ⟨a, b⟩ | ⟨a, b⟩
  · exact lv_icmp_ne hx.1 rfl hdg ht (fun _ => kt a t b H locs ls hH hS hl) (fun q => absurd q (by first | exact fun z => z a | exact a))
  · exact lv_icmp_ne hx.1 rfl hdg ht (fun q => absurd q a) (fun _ => kf a t b H locs ls hH hS hl)
theorem r_if_lt {x1 : Int32} {off : Int} {tgt : Nat} {g : Option τ} {pc' : Nat} (hx : Ok own nL ret fr lo w x) (hdg : decode (xc x).code pc = .ok (.ifCond .lt off, 3)) (ht : (pc : Int) + off = (tgt : Int)) (kt : x1 < 0 → C x w Q nL tgt L rest M f) (hp : pc + 3 = pc') (kf : ¬ (x1 < 0) → C x w Q nL pc' L rest M g) : C x w Q nL pc L (.int x1 :: rest) M (if x1 < 0 then f else g) := by
  subst hp
  intro t h H locs ls hH hS hl
  rcases r_if h with ⟨a, b⟩ | ⟨a, b⟩
  · exact lv_if_lt hx.1 rfl hdg ht (fun _ => kt a t b H locs ls hH hS hl) (fun q => absurd a q)
  · exact lv_if_lt hx.1 rfl hdg ht (fun q => absurd q a) (fun _ => kf a t b H locs ls hH hS hl)
theorem r_icmp_lt {x1 y1 : Int32} {off : Int} {tgt : Nat} {g : Option τ} {pc' : Nat} (hx : Ok own nL ret fr lo w x) (hdg : decode (xc x).code pc = .ok (.if_icmp .lt off, 3)) (ht : (pc : Int) + off = (tgt : Int)) (kt : x1 < y1 → C x w Q nL tgt L rest M f) (hp : pc + 3 = pc') (kf : ¬ (x1 < y1) → C x w Q nL pc' L rest M g) : C x w Q nL pc L (.int y1 :: .int x1 :: rest) M (if x1 < y1 then f else g) := by
  subst hp
  intro t h H locs ls hH hS hl
  rcases r_if h with ⟨a, b⟩ | ⟨a, b⟩
  · exact lv_icmp_lt hx.1 rfl hdg ht (fun _ => kt a t b H locs ls hH hS hl) (fun q => absurd a q)
  · exact lv_icmp_lt hx.1 rfl hdg ht (fun q => absurd q a) (fun _ => kf a t b H locs ls hH hS hl)
theorem r_if_ge {x1 : Int32} {off : Int} {tgt : Nat} {g : Option τ} {pc' : Nat} (hx : Ok own nL ret fr lo w x) (hdg : decode (xc x).code pc = .ok (.ifCond .ge off, 3)) (ht : (pc : Int) + off = (tgt : Int)) (kt : 0 ≤ x1 → C x w Q nL tgt L rest M f) (hp : pc + 3 = pc') (kf : ¬ (0 ≤ x1) → C x w Q nL pc' L rest M g) : C x w Q nL pc L (.int x1 :: rest) M (if 0 ≤ x1 then f else g) := by
  subst hp
  intro t h H locs ls hH hS hl
  rcases r_if h with ⟨a, b⟩ | ⟨a, b⟩
  · exact lv_if_ge hx.1 rfl hdg ht (fun _ => kt a t b H locs ls hH hS hl) (fun q => absurd a q)
  · exact lv_if_ge hx.1 rfl hdg ht (fun q => absurd q a) (fun _ => kf a t b H locs ls hH hS hl)
theorem r_icmp_ge {x1 y1 : Int32} {off : Int} {tgt : Nat} {g : Option τ} {pc' : Nat} (hx : Ok own nL ret fr lo w x) (hdg : decode (xc x).code pc = .ok (.if_icmp .ge off, 3)) (ht : (pc : Int) + off = (tgt : Int)) (kt : y1 ≤ x1 → C x w Q nL tgt L rest M f) (hp : pc + 3 = pc') (kf : ¬ (y1 ≤ x1) → C x w Q nL pc' L rest M g) : C x w Q nL pc L (.int y1 :: .int x1 :: rest) M (if y1 ≤ x1 then f else g) := by
  subst hp
  intro t h H locs ls hH hS hl
  rcases r_if h with ⟨a, b⟩ | ⟨a, b⟩
  · exact lv_icmp_ge hx.1 rfl hdg ht (fun _ => kt a t b H locs ls hH hS hl) (fun q => absurd a q)
  · exact lv_icmp_ge hx.1 rfl hdg ht (fun q => absurd q a) (fun _ => kf a t b H locs ls hH hS hl)
theorem r_if_gt {x1 : Int32} {off : Int} {tgt : Nat} {g : Option τ} {pc' : Nat} (hx : Ok own nL ret fr lo w x) (hdg : decode (xc x).code pc = .ok (.ifCond .gt off, 3)) (ht : (pc : Int) + off = (tgt : Int)) (kt : 0 < x1 → C x w Q nL tgt L rest M f) (hp : pc + 3 = pc') (kf : ¬ (0 < x1) → C x w Q nL pc' L rest M g) : C x w Q nL pc L (.int x1 :: rest) M (if 0 < x1 then f else g) := by
  subst hp
  intro t h H locs ls hH hS hl
  rcases r_if h with ⟨a, b⟩ | ⟨a, b⟩
  · exact lv_if_gt hx.1 rfl hdg ht (fun _ => kt a t b H locs ls hH hS hl) (fun q => absurd a q)
  · exact lv_if_gt hx.1 rfl hdg ht (fun q => absurd q a) (fun _ => kf a t b H locs ls hH hS hl)
theorem r_icmp_gt {x1 y1 : Int32} {off : Int} {tgt : Nat} {g : Option τ} {pc' : Nat} (hx : Ok own nL ret fr lo w x) (hdg : decode (xc x).code pc = .ok (.if_icmp .gt off, 3)) (ht : (pc : Int) + off = (tgt : Int)) (kt : y1 < x1 → C x w Q nL tgt L rest M f) (hp : pc + 3 = pc') (kf : ¬ (y1 < x1) → C x w Q nL pc' L rest M g) : C x w Q nL pc L (.int y1 :: .int x1 :: rest) M (if y1 < x1 then f else g) := by
  subst hp
  intro t h H locs ls hH hS hl
  rcases r_if h with ⟨a, b⟩ | ⟨a, b⟩
  · exact lv_icmp_gt hx.1 rfl hdg ht (fun _ => kt a t b H locs ls hH hS hl) (fun q => absurd a q)
  · exact lv_icmp_gt hx.1 rfl hdg ht (fun q => absurd q a) (fun _ => kf a t b H locs ls hH hS hl)
theorem r_if_le {x1 : Int32} {off : Int} {tgt : Nat} {g : Option τ} {pc' : Nat} (hx : Ok own nL ret fr lo w x) (hdg : decode (xc x).code pc = .ok (.ifCond .le off, 3)) (ht : (pc : Int) + off = (tgt : Int)) (kt : x1 ≤ 0 → C x w Q nL tgt L rest M f) (hp : pc + 3 = pc') (kf : ¬ (x1 ≤ 0) → C x w Q nL pc' L rest M g) : C x w Q nL pc L (.int x1 :: rest) M (if x1 ≤ 0 then f else g) := by
  subst hp
  intro t h H locs ls hH hS hl
  rcases r_if h with ⟨a, b⟩ | ⟨a, b⟩
  · exact lv_if_le hx.1 rfl hdg ht (fun _ => kt a t b H locs ls hH hS hl) (fun q => absurd a q)
  · exact lv_if_le hx.1 rfl hdg ht (fun q => absurd q a) (fun _ => kf a t b H locs ls hH hS hl)
theorem r_icmp_le {x1 y1 : Int32} {off : Int} {tgt : Nat} {g : Option τ} {pc' : Nat} (hx : Ok own nL ret fr lo w x) (hdg : decode (xc x).code pc = .ok (.if_icmp .le off, 3)) (ht : (pc : Int) + off = (tgt : Int)) (kt : x1 ≤ y1 → C x w Q nL tgt L rest M f) (hp : pc + 3 = pc') (kf : ¬ (x1 ≤ y1) → C x w Q nL pc' L rest M g) : C x w Q nL pc L (.int y1 :: .int x1 :: rest) M (if x1 ≤ y1 then f else g) := by
  subst hp
  intro t h H locs ls hH hS hl
  rcases r_if h with ⟨a, b⟩ | ⟨a, b⟩
  · exact lv_icmp_le hx.1 rfl hdg ht (fun _ => kt a t b H locs ls hH hS hl) (fun q => absurd a q)
  · exact lv_icmp_le hx.1 rfl hdg ht (fun q => absurd q a) (fun _ => kf a t b H locs ls hH hS hl)
theorem r_goto {off : Int} {tgt : Nat} (hx : Ok own nL ret fr lo w x) (hdg : decode (xc x).code pc = .ok (.goto off, 3)) (ht : (pc : Int) + off = (tgt : Int)) (k : C x w Q nL tgt L rest M f) : C x w Q nL pc L rest M f :=
  fun t h H locs ls hH hS hl => lv_goto hx.1 rfl hdg ht (k t h H locs ls hH hS hl)
end RW
