def wr (v : Mem) (r : Nat → Nat → Option Nat) : Mem := (v.1, v.2.1, r, v.2.2.2)
/-- as it was at first, from n on -/
def Zr (Z U : Mem) (n : Nat) : Prop := ∀ o, n ≤ o → mI U o = mI Z o ∧ mJ U o = mJ Z o ∧ mR U o = mR Z o ∧ mN U o = mN Z o
theorem Zr.z0 {Z U : Mem} {n : Nat} (h1 : U.1 = Z.1) (h2 : U.2.1 = Z.2.1) (h3 : U.2.2.1 = Z.2.2.1) (h4 : U.2.2.2 = Z.2.2.2) : Zr Z U n := fun o _ => ⟨congrFun h1 o, congrFun h2 o, congrFun h3 o, congrFun h4 o⟩
theorem Zr.i {Z U : Mem} {n m a k : Nat} {v : Int32} (h : Zr Z U n) (ha : n ≤ m ∧ a < m) : Zr Z (sI U a k v) m := fun o ho => by
  obtain ⟨h1, h2, h3, h4⟩ := h o (by omega)
  exact ⟨(up2_n (by omega)).trans h1, h2, h3, h4⟩
theorem Zr.j {Z U : Mem} {n m a k : Nat} {v : Int64} (h : Zr Z U n) (ha : n ≤ m ∧ a < m) : Zr Z (sJ U a k v) m := fun o ho => by
  obtain ⟨h1, h2, h3, h4⟩ := h o (by omega)
  exact ⟨h1, (up2_n (by omega)).trans h2, h3, h4⟩
theorem Zr.r {Z U : Mem} {n m a k : Nat} {v : Option Nat} (h : Zr Z U n) (ha : n ≤ m ∧ a < m) : Zr Z (sR U a k v) m := fun o ho => by
  obtain ⟨h1, h2, h3, h4⟩ := h o (by omega)
  exact ⟨h1, h2, (up2_n (by omega)).trans h3, h4⟩
theorem Zr.p {Z U V : Mem} {n m a s : Nat} (h : Zr Z U n) (hm : n ≤ m) (ha : a + s ≤ m) : Zr Z (put U a s V) m := fun o ho => by
  obtain ⟨h1, h2, h3, h4⟩ := h o (by omega)
  obtain ⟨b1, b2, b3, b4⟩ := put_outy (M := U) (U := V) (t := a) (S := s) (a := o) (by omega)
  exact ⟨b1.trans h1, b2.trans h2, b3.trans h3, b4.trans h4⟩
theorem wrI (v : Mem) (q : Nat → Nat → Option Nat) (a k : Nat) (x : Int32) : sI (wr v q) a k x = wr (sI v a k x) q := rfl
theorem wrJ (v : Mem) (q : Nat → Nat → Option Nat) (a k : Nat) (x : Int64) : sJ (wr v q) a k x = wr (sJ v a k x) q := rfl
theorem wrR (v : Mem) (q : Nat → Nat → Option Nat) (a k : Nat) (x : Option Nat) : sR (wr v q) a k x = wr v (up2 q a k x) := rfl
theorem wrP (v : Mem) (q : Nat → Nat → Option Nat) (o s : Nat) (T : Mem) : put (wr v q) o s T = wr (put v o s T) (fun a => if o ≤ a ∧ a < o + s then T.2.2.1 (a - o) else q a) := rfl
theorem Zr.cI {Z v : Mem} {q : Nat → Nat → Option Nat} {n m a k : Nat} {x : Int32} (h : Zr Z (wr v q) n) (ha : n ≤ m ∧ a < m) : Zr Z (wr (sI v a k x) q) m := Zr.i h ha
theorem Zr.cJ {Z v : Mem} {q : Nat → Nat → Option Nat} {n m a k : Nat} {x : Int64} (h : Zr Z (wr v q) n) (ha : n ≤ m ∧ a < m) : Zr Z (wr (sJ v a k x) q) m := Zr.j h ha
theorem Zr.cR {Z v : Mem} {q : Nat → Nat → Option Nat} {n m a k : Nat} {x : Option Nat} (h : Zr Z (wr v q) n) (ha : n ≤ m ∧ a < m) : Zr Z (wr v (up2 q a k x)) m := Zr.r h ha
theorem Zr.cP {Z v T : Mem} {q : Nat → Nat → Option Nat} {n m o s : Nat} (h : Zr Z (wr v q) n) (hm : n ≤ m) (ha : o + s ≤ m) : Zr Z (wr (put v o s T) (fun a => if o ≤ a ∧ a < o + s then T.2.2.1 (a - o) else q a)) m := Zr.p (V := T) h hm ha
theorem Rny.cI {v : Mem} {q : Nat → Nat → Option Nat} {l : List Nat} {a k : Nat} {x : Int32} (h : Rny (wr v q) l) : Rny (wr (sI v a k x) q) l := h
theorem Rny.cJ {v : Mem} {q : Nat → Nat → Option Nat} {l : List Nat} {a k : Nat} {x : Int64} (h : Rny (wr v q) l) : Rny (wr (sJ v a k x) q) l := h
theorem Rny.cR {v : Mem} {q : Nat → Nat → Option Nat} {l : List Nat} {a k : Nat} {x : Option Nat} (h : Rny (wr v q) l) (ha : a ∈ l) : Rny (wr v (up2 q a k x)) l := Rny.r h ha
theorem Rny.cP {v T : Mem} {q : Nat → Nat → Option Nat} {l : List Nat} {o s : Nat} (h : Rny (wr v q) l) (hV : Rny T []) : Rny (wr (put v o s T) (fun a => if o ≤ a ∧ a < o + s then T.2.2.1 (a - o) else q a)) l := Rny.p (V := T) h hV
theorem Rny.cF {v v' : Mem} {q : Nat → Nat → Option Nat} {l : List Nat} (h : Rny (wr v q) l) : Rny (wr v' q) l := h
theorem Rny.z9 {U : Mem} {l : List Nat} (h : U.2.2.1 = fun _ _ => none) : Rny U l := fun o _ => congrFun h o
theorem fil_0 (v : Mem) (r : Nat → Nat → Option Nat) : wr v r = wr (fil v 0) r := by
  have e : v.1 = va_up v.1 2 (fun k => if 18 ≤ k ∧ k < 18 + 0 then -1 else v.1 2 k) := by
    funext a
    by_cases h : a = 2
    · subst h
      rw [va_up_self]
      funext k
      rw [if_neg (by omega)]
    · rw [va_up_ne _ _ h]
  show (v.1, v.2.1, r, v.2.2.2) = (va_up v.1 2 (fun k => if 18 ≤ k ∧ k < 18 + 0 then -1 else v.1 2 k), v.2.1, r, v.2.2.2)
  rw [← e]
theorem fil_s (v : Mem) (r : Nat → Nat → Option Nat) (c : Nat) : sI (wr (fil v c) r) 2 (18 + c) (-1) = wr (fil v (c + 1)) r := by
  have e : up2 (va_up v.1 2 (fun k => if 18 ≤ k ∧ k < 18 + c then (-1 : Int32) else v.1 2 k)) 2 (18 + c) (-1) = va_up v.1 2 (fun k => if 18 ≤ k ∧ k < 18 + (c + 1) then -1 else v.1 2 k) := by
    funext a
    by_cases h : a = 2
    · subst h
      rw [up2_s, va_up_self, va_up_self]
      funext k
      by_cases hk : k = 18 + c
      · subst hk
        rw [va_up_self, if_pos (by omega)]
      · rw [va_up_ne _ _ hk]
        by_cases h2 : 18 ≤ k ∧ k < 18 + c
        · rw [if_pos h2, if_pos (by omega)]
        · rw [if_neg h2, if_neg (by omega)]
    · rw [up2_n h, va_up_ne _ _ h, va_up_ne _ _ h]
  show (up2 (va_up v.1 2 (fun k => if 18 ≤ k ∧ k < 18 + c then (-1 : Int32) else v.1 2 k)) 2 (18 + c) (-1), v.2.1, r, v.2.2.2) = (va_up v.1 2 (fun k => if 18 ≤ k ∧ k < 18 + (c + 1) then -1 else v.1 2 k), v.2.1, r, v.2.2.2)
  rw [e]
theorem fil_c (c : Nat) (h : c < 52) : (¬ (52 : Int32) ≤ Int32.ofNat c) ∧ inb (18 + Int32.ofNat c) 5594 = true ∧ ix (18 + Int32.ofNat c) = 18 + c ∧ Int32.ofNat c + Int32.ofInt 1 = Int32.ofNat (c + 1) :=
  (by decide +kernel : ∀ c, c < 52 → (¬ (52 : Int32) ≤ Int32.ofNat c) ∧ inb (18 + Int32.ofNat c) 5594 = true ∧ ix (18 + Int32.ofNat c) = 18 + c ∧ Int32.ofNat c + Int32.ofInt 1 = Int32.ofNat (c + 1)) c h
section RV
variable {τ : Type} {own : String} {nL fr lo : Nat} {ret : Option FieldType} {w : WX} {x : MX} {Q : τ → State → Prop} {pc pc' : Nat} {L L' : List (Nat × Value)} {rest : List Value} {M U T : Mem} {f : Option τ} {t S : Nat}
theorem z_as {st : List Value} {U' : Mem} (h : U = U') (kk : C x w Q nL pc L st (put M t S U') f) : C x w Q nL pc L st (put M t S U) f := by subst h; exact kk
theorem z_post {o s : Nat} {st : List Value} (h : o + s ≤ S) (kk : C x w Q nL pc L st (put M t S (put U o s T)) f) : C x w Q nL pc L st (put (put M t S U) (t + o) s T) f := by rw [put_put h]; exact kk
theorem z_iinc {i j : Nat} {n : Int} {u v : Int32} (hx : Ok own nL ret fr lo w x) (hdg : decode (xc x).code pc = .ok (.iinc i n, 3)) (hj : L[j]? = some (i, .int u)) (hv : u + Int32.ofInt n = v) (hn : i < nL) (hl : (i, Value.int v) :: L.filter (fun q => !(q.1 == i) && !(q.1 + 1 == i && q.2.category == 2)) = L') (hp : pc + 3 = pc') (k : C x w Q nL pc' L' rest M f) : C x w Q nL pc L rest M f := by
  subst hp
  exact fun t ht H locs ls hH hS h => lv_iinc hx.1 rfl hdg h hj hv hn hl (fun ls' h' => k t ht H locs ls' hH hS h')
theorem z_geT {x1 y1 : Int32} {off : Int} (tgt : Nat) (hx : Ok own nL ret fr lo w x) (hdg : decode (xc x).code pc = .ok (.if_icmp .ge off, 3)) (ht : (pc : Int) + off = (tgt : Int)) (h : y1 ≤ x1) (k : C x w Q nL tgt L rest M f) : C x w Q nL pc L (.int y1 :: .int x1 :: rest) M f := by
  have e := r_icmp_ge (tgt := tgt) (g := none) hx hdg ht (fun _ => k) rfl (fun q => absurd h q)
  rwa [if_pos h] at e
theorem z_geF {x1 y1 : Int32} {off : Int} (tgt : Nat) (hx : Ok own nL ret fr lo w x) (hdg : decode (xc x).code pc = .ok (.if_icmp .ge off, 3)) (ht : (pc : Int) + off = (tgt : Int)) (h : ¬ y1 ≤ x1) (hp : pc + 3 = pc') (k : C x w Q nL pc' L rest M f) : C x w Q nL pc L (.int y1 :: .int x1 :: rest) M f := by
  have e := r_icmp_ge (tgt := tgt) (f := none) hx hdg ht (fun q => absurd q h) hp (fun _ => k)
  rwa [if_neg h] at e
theorem z_alenR {a c n : Nat} {ty : FieldType} {v : Int32} (hx : Ok own nL ret fr lo w x) (hdg : decode (xc x).code pc = .ok (.arraylength, 1)) (ha : Wat w a (60 + c) n) (hty : (wtys w)[c]? = some (wAy w c, ty)) (hv : Int32.ofNat n = v) (hp : pc + 1 = pc') (kk : C x w Q nL pc' L (.int v :: rest) M f) : C x w Q nL pc L (.ref a :: rest) M f := by
  subst hp
  intro t ht H locs ls hH hS hl
  obtain ⟨q0, hq⟩ := wcl_get (M := M) ha.1
  rw [ha.rawA] at hq
  exact va_alen hx.1 rfl hx.2.2.2.1.2.1 hH.1 q0 c hq hty hv hdg (kk t ht H locs ls hH hS hl)
end RV
theorem lkI_11_12 : Cond.fieldLink "CribbageRoom" 12 "CribbageRoom" "now" "LCribbageRoom$State;" ∈ UW := uw_in (in_2 _ (List.mem_of_getElem? (i := 179) rfl)) rfl
theorem fw_11_12 : FW "CribbageRoom" 12 11 0 (.object "CribbageRoom$State") := ⟨_, _, tyX11, rfl, inX11, by decide, lkI_11_12, tyX11_ok, nmX11, rfl, by decide +kernel⟩
theorem lkI_11_16 : Cond.fieldLink "CribbageRoom" 16 "CribbageRoom" "images" "[LCribbageRoom$State;" ∈ UW := uw_in (in_2 _ (List.mem_of_getElem? (i := 180) rfl)) rfl
theorem fw_11_16 : FW "CribbageRoom" 16 11 1 (.array (.object "CribbageRoom$State")) := ⟨_, _, tyX11, rfl, inX11, by decide, lkI_11_16, tyX11_ok, nmX11, rfl, by decide +kernel⟩
theorem lkI_11_23 : Cond.fieldLink "CribbageRoom" 23 "CribbageRoom" "history" "LCribbageRoom$History;" ∈ UW := uw_in (in_2 _ (List.mem_of_getElem? (i := 181) rfl)) rfl
theorem fw_11_23 : FW "CribbageRoom" 23 11 2 (.object "CribbageRoom$History") := ⟨_, _, tyX11, rfl, inX11, by decide, lkI_11_23, tyX11_ok, nmX11, rfl, by decide +kernel⟩
theorem lkI_11_27 : Cond.fieldLink "CribbageRoom" 27 "CribbageRoom" "historyBefore" "LCribbageRoom$History;" ∈ UW := uw_in (in_2 _ (List.mem_of_getElem? (i := 182) rfl)) rfl
theorem fw_11_27 : FW "CribbageRoom" 27 11 3 (.object "CribbageRoom$History") := ⟨_, _, tyX11, rfl, inX11, by decide, lkI_11_27, tyX11_ok, nmX11, rfl, by decide +kernel⟩
theorem lkI_11_33 : Cond.fieldLink "CribbageRoom" 33 "CribbageRoom" "tableBefore" "LCribbageRoom$Table;" ∈ UW := uw_in (in_2 _ (List.mem_of_getElem? (i := 183) rfl)) rfl
theorem fw_11_33 : FW "CribbageRoom" 33 11 4 (.object "CribbageRoom$Table") := ⟨_, _, tyX11, rfl, inX11, by decide, lkI_11_33, tyX11_ok, nmX11, rfl, by decide +kernel⟩
theorem lkI_11_37 : Cond.fieldLink "CribbageRoom" 37 "CribbageRoom" "paper" "LCribbageRoom$Table;" ∈ UW := uw_in (in_2 _ (List.mem_of_getElem? (i := 184) rfl)) rfl
theorem fw_11_37 : FW "CribbageRoom" 37 11 5 (.object "CribbageRoom$Table") := ⟨_, _, tyX11, rfl, inX11, by decide, lkI_11_37, tyX11_ok, nmX11, rfl, by decide +kernel⟩
theorem lkI_11_43 : Cond.fieldLink "CribbageRoom" 43 "CribbageRoom" "reader" "LCribbageRoom$Reader;" ∈ UW := uw_in (in_2 _ (List.mem_of_getElem? (i := 185) rfl)) rfl
theorem fw_11_43 : FW "CribbageRoom" 43 11 6 (.object "CribbageRoom$Reader") := ⟨_, _, tyX11, rfl, inX11, by decide, lkI_11_43, tyX11_ok, nmX11, rfl, by decide +kernel⟩
theorem lkI_11_50 : Cond.fieldLink "CribbageRoom" 50 "CribbageRoom" "sums" "LCribbageRoom$Sums;" ∈ UW := uw_in (in_2 _ (List.mem_of_getElem? (i := 186) rfl)) rfl
theorem fw_11_50 : FW "CribbageRoom" 50 11 7 (.object "CribbageRoom$Sums") := ⟨_, _, tyX11, rfl, inX11, by decide, lkI_11_50, tyX11_ok, nmX11, rfl, by decide +kernel⟩
theorem lkI_11_57 : Cond.fieldLink "CribbageRoom" 57 "CribbageRoom" "worth" "LCribbageRoom$Worth;" ∈ UW := uw_in (in_2 _ (List.mem_of_getElem? (i := 187) rfl)) rfl
theorem fw_11_57 : FW "CribbageRoom" 57 11 8 (.object "CribbageRoom$Worth") := ⟨_, _, tyX11, rfl, inX11, by decide, lkI_11_57, tyX11_ok, nmX11, rfl, by decide +kernel⟩
theorem lkI_11_61 : Cond.fieldLink "CribbageRoom" 61 "CribbageRoom" "otherWorth" "LCribbageRoom$Worth;" ∈ UW := uw_in (in_2 _ (List.mem_of_getElem? (i := 188) rfl)) rfl
theorem fw_11_61 : FW "CribbageRoom" 61 11 9 (.object "CribbageRoom$Worth") := ⟨_, _, tyX11, rfl, inX11, by decide, lkI_11_61, tyX11_ok, nmX11, rfl, by decide +kernel⟩
theorem lkI_11_67 : Cond.fieldLink "CribbageRoom" 67 "CribbageRoom" "four" "LCribbageRoom$Four;" ∈ UW := uw_in (in_2 _ (List.mem_of_getElem? (i := 189) rfl)) rfl
theorem fw_11_67 : FW "CribbageRoom" 67 11 10 (.object "CribbageRoom$Four") := ⟨_, _, tyX11, rfl, inX11, by decide, lkI_11_67, tyX11_ok, nmX11, rfl, by decide +kernel⟩
theorem lkI_11_74 : Cond.fieldLink "CribbageRoom" 74 "CribbageRoom" "fours" "LCribbageRoom$Fours;" ∈ UW := uw_in (in_2 _ (List.mem_of_getElem? (i := 190) rfl)) rfl
theorem fw_11_74 : FW "CribbageRoom" 74 11 11 (.object "CribbageRoom$Fours") := ⟨_, _, tyX11, rfl, inX11, by decide, lkI_11_74, tyX11_ok, nmX11, rfl, by decide +kernel⟩
theorem lkI_11_81 : Cond.fieldLink "CribbageRoom" 81 "CribbageRoom" "cribSum" "LCribbageRoom$CribSum;" ∈ UW := uw_in (in_2 _ (List.mem_of_getElem? (i := 191) rfl)) rfl
theorem fw_11_81 : FW "CribbageRoom" 81 11 12 (.object "CribbageRoom$CribSum") := ⟨_, _, tyX11, rfl, inX11, by decide, lkI_11_81, tyX11_ok, nmX11, rfl, by decide +kernel⟩
theorem lkI_11_88 : Cond.fieldLink "CribbageRoom" 88 "CribbageRoom" "ending" "LCribbageRoom$Ending;" ∈ UW := uw_in (in_2 _ (List.mem_of_getElem? (i := 192) rfl)) rfl
theorem fw_11_88 : FW "CribbageRoom" 88 11 13 (.object "CribbageRoom$Ending") := ⟨_, _, tyX11, rfl, inX11, by decide, lkI_11_88, tyX11_ok, nmX11, rfl, by decide +kernel⟩
theorem lkI_11_96 : Cond.fieldLink "CribbageRoom" 96 "CribbageRoom" "refused" "[I" ∈ UW := uw_in (in_2 _ (List.mem_of_getElem? (i := 193) rfl)) rfl
theorem fw_11_96 : FW "CribbageRoom" 96 11 14 (.array .int) := ⟨_, _, tyX11, rfl, inX11, by decide, lkI_11_96, tyX11_ok, nmX11, rfl, by decide +kernel⟩
theorem lkI_11_99 : Cond.fieldLink "CribbageRoom" 99 "CribbageRoom" "pegsDrawn" "[I" ∈ UW := uw_in (in_2 _ (List.mem_of_getElem? (i := 194) rfl)) rfl
theorem fw_11_99 : FW "CribbageRoom" 99 11 15 (.array .int) := ⟨_, _, tyX11, rfl, inX11, by decide, lkI_11_99, tyX11_ok, nmX11, rfl, by decide +kernel⟩
theorem lkI_11_102 : Cond.fieldLink "CribbageRoom" 102 "CribbageRoom" "latestStop" "I" ∈ UW := uw_in (in_2 _ (List.mem_of_getElem? (i := 197) rfl)) rfl
theorem fw_11_102 : FW "CribbageRoom" 102 11 18 .int := ⟨_, _, tyX11, rfl, inX11, by decide, lkI_11_102, tyX11_ok, nmX11, rfl, by decide +kernel⟩
theorem lkI_0_11 : Cond.fieldLink "CribbageRoom$CribSum" 11 "CribbageRoom$CribSum" "ways" "[[J" ∈ UW := uw_in (in_2 _ (List.mem_of_getElem? (i := 136) rfl)) rfl
theorem fw_0_11 : FW "CribbageRoom$CribSum" 11 0 0 (.array (.array .long)) := ⟨_, _, tyX0, rfl, inX0, by decide, lkI_0_11, tyX0_ok, nmX0, rfl, by decide +kernel⟩
theorem lkI_0_16 : Cond.fieldLink "CribbageRoom$CribSum" 16 "CribbageRoom$CribSum" "freeOfRank" "[I" ∈ UW := uw_in (in_2 _ (List.mem_of_getElem? (i := 137) rfl)) rfl
theorem fw_0_16 : FW "CribbageRoom$CribSum" 16 0 1 (.array .int) := ⟨_, _, tyX0, rfl, inX0, by decide, lkI_0_16, tyX0_ok, nmX0, rfl, by decide +kernel⟩
theorem lkI_0_20 : Cond.fieldLink "CribbageRoom$CribSum" 20 "CribbageRoom$CribSum" "freeOfSuit" "[I" ∈ UW := uw_in (in_2 _ (List.mem_of_getElem? (i := 138) rfl)) rfl
theorem fw_0_20 : FW "CribbageRoom$CribSum" 20 0 2 (.array .int) := ⟨_, _, tyX0, rfl, inX0, by decide, lkI_0_20, tyX0_ok, nmX0, rfl, by decide +kernel⟩
theorem lkI_0_23 : Cond.fieldLink "CribbageRoom$CribSum" 23 "CribbageRoom$CribSum" "ranks" "[I" ∈ UW := uw_in (in_2 _ (List.mem_of_getElem? (i := 139) rfl)) rfl
theorem fw_0_23 : FW "CribbageRoom$CribSum" 23 0 3 (.array .int) := ⟨_, _, tyX0, rfl, inX0, by decide, lkI_0_23, tyX0_ok, nmX0, rfl, by decide +kernel⟩
theorem lkI_1_11 : Cond.fieldLink "CribbageRoom$Ending" 11 "CribbageRoom$Ending" "tables" "[LCribbageRoom$Table;" ∈ UW := uw_in (in_2 _ (List.mem_of_getElem? (i := 169) rfl)) rfl
theorem fw_1_11 : FW "CribbageRoom$Ending" 11 1 0 (.array (.object "CribbageRoom$Table")) := ⟨_, _, tyX1, rfl, inX1, by decide, lkI_1_11, tyX1_ok, nmX1, rfl, by decide +kernel⟩
theorem flI_1_11 : FL "CribbageRoom$Ending" 11 1 0 := ⟨_, _, rfl, inX1, by decide, lkI_1_11⟩
theorem lkI_2_9 : Cond.fieldLink "CribbageRoom$Four" 9 "CribbageRoom$Four" "cards" "[I" ∈ UW := uw_in (in_2 _ (List.mem_of_getElem? (i := 77) rfl)) rfl
theorem fw_2_9 : FW "CribbageRoom$Four" 9 2 0 (.array .int) := ⟨_, _, tyX2, rfl, inX2, by decide, lkI_2_9, tyX2_ok, nmX2, rfl, by decide +kernel⟩
theorem lkI_2_15 : Cond.fieldLink "CribbageRoom$Four" 15 "CribbageRoom$Four" "ranks" "[I" ∈ UW := uw_in (in_2 _ (List.mem_of_getElem? (i := 78) rfl)) rfl
theorem fw_2_15 : FW "CribbageRoom$Four" 15 2 1 (.array .int) := ⟨_, _, tyX2, rfl, inX2, by decide, lkI_2_15, tyX2_ok, nmX2, rfl, by decide +kernel⟩
theorem lkI_2_18 : Cond.fieldLink "CribbageRoom$Four" 18 "CribbageRoom$Four" "pairsByRank" "[I" ∈ UW := uw_in (in_2 _ (List.mem_of_getElem? (i := 79) rfl)) rfl
theorem fw_2_18 : FW "CribbageRoom$Four" 18 2 2 (.array .int) := ⟨_, _, tyX2, rfl, inX2, by decide, lkI_2_18, tyX2_ok, nmX2, rfl, by decide +kernel⟩
theorem lkI_2_21 : Cond.fieldLink "CribbageRoom$Four" 21 "CribbageRoom$Four" "runsByRank" "[I" ∈ UW := uw_in (in_2 _ (List.mem_of_getElem? (i := 80) rfl)) rfl
theorem fw_2_21 : FW "CribbageRoom$Four" 21 2 3 (.array .int) := ⟨_, _, tyX2, rfl, inX2, by decide, lkI_2_21, tyX2_ok, nmX2, rfl, by decide +kernel⟩
theorem lkI_2_24 : Cond.fieldLink "CribbageRoom$Four" 24 "CribbageRoom$Four" "fifteensByValue" "[I" ∈ UW := uw_in (in_2 _ (List.mem_of_getElem? (i := 81) rfl)) rfl
theorem fw_2_24 : FW "CribbageRoom$Four" 24 2 4 (.array .int) := ⟨_, _, tyX2, rfl, inX2, by decide, lkI_2_24, tyX2_ok, nmX2, rfl, by decide +kernel⟩
theorem lkI_3_11 : Cond.fieldLink "CribbageRoom$Fours" 11 "CribbageRoom$Fours" "counts" "[[I" ∈ UW := uw_in (in_2 _ (List.mem_of_getElem? (i := 115) rfl)) rfl
theorem fw_3_11 : FW "CribbageRoom$Fours" 11 3 0 (.array (.array .int)) := ⟨_, _, tyX3, rfl, inX3, by decide, lkI_3_11, tyX3_ok, nmX3, rfl, by decide +kernel⟩
theorem lkI_3_16 : Cond.fieldLink "CribbageRoom$Fours" 16 "CribbageRoom$Fours" "lower" "[I" ∈ UW := uw_in (in_2 _ (List.mem_of_getElem? (i := 116) rfl)) rfl
theorem fw_3_16 : FW "CribbageRoom$Fours" 16 3 1 (.array .int) := ⟨_, _, tyX3, rfl, inX3, by decide, lkI_3_16, tyX3_ok, nmX3, rfl, by decide +kernel⟩
theorem lkI_3_20 : Cond.fieldLink "CribbageRoom$Fours" 20 "CribbageRoom$Fours" "higher" "[I" ∈ UW := uw_in (in_2 _ (List.mem_of_getElem? (i := 117) rfl)) rfl
theorem fw_3_20 : FW "CribbageRoom$Fours" 20 3 2 (.array .int) := ⟨_, _, tyX3, rfl, inX3, by decide, lkI_3_20, tyX3_ok, nmX3, rfl, by decide +kernel⟩
theorem lkI_4_13 : Cond.fieldLink "CribbageRoom$History" 13 "CribbageRoom$History" "tables" "[LCribbageRoom$Table;" ∈ UW := uw_in (in_1 _ (List.mem_of_getElem? (i := 154) rfl)) rfl
theorem fw_4_13 : FW "CribbageRoom$History" 13 4 0 (.array (.object "CribbageRoom$Table")) := ⟨_, _, tyX4, rfl, inX4, by decide, lkI_4_13, tyX4_ok, nmX4, rfl, by decide +kernel⟩
theorem flI_4_13 : FL "CribbageRoom$History" 13 4 0 := ⟨_, _, rfl, inX4, by decide, lkI_4_13⟩
theorem lkI_4_17 : Cond.fieldLink "CribbageRoom$History" 17 "CribbageRoom$History" "kinds" "[I" ∈ UW := uw_in (in_1 _ (List.mem_of_getElem? (i := 155) rfl)) rfl
theorem fw_4_17 : FW "CribbageRoom$History" 17 4 1 (.array .int) := ⟨_, _, tyX4, rfl, inX4, by decide, lkI_4_17, tyX4_ok, nmX4, rfl, by decide +kernel⟩
theorem lkI_5_9 : Cond.fieldLink "CribbageRoom$Reader" 9 "CribbageRoom$Reader" "tape" "[I" ∈ UW := uw_in (in_1 _ (List.mem_of_getElem? (i := 205) rfl)) rfl
theorem fw_5_9 : FW "CribbageRoom$Reader" 9 5 0 (.array .int) := ⟨_, _, tyX5, rfl, inX5, by decide, lkI_5_9, tyX5_ok, nmX5, rfl, by decide +kernel⟩
theorem lkI_5_18 : Cond.fieldLink "CribbageRoom$Reader" 18 "CribbageRoom$Reader" "draft" "LCribbageRoom$Text;" ∈ UW := uw_in (in_1 _ (List.mem_of_getElem? (i := 207) rfl)) rfl
theorem fw_5_18 : FW "CribbageRoom$Reader" 18 5 1 (.object "CribbageRoom$Text") := ⟨_, _, tyX5, rfl, inX5, by decide, lkI_5_18, tyX5_ok, nmX5, rfl, by decide +kernel⟩
theorem lkI_5_22 : Cond.fieldLink "CribbageRoom$Reader" 22 "CribbageRoom$Reader" "fault" "I" ∈ UW := uw_in (in_1 _ (List.mem_of_getElem? (i := 211) rfl)) rfl
theorem fw_5_22 : FW "CribbageRoom$Reader" 22 5 3 .int := ⟨_, _, tyX5, rfl, inX5, by decide, lkI_5_22, tyX5_ok, nmX5, rfl, by decide +kernel⟩
theorem lkI_6_12 : Cond.fieldLink "CribbageRoom$State" 12 "CribbageRoom$State" "table" "LCribbageRoom$Table;" ∈ UW := uw_in (in_1 _ (List.mem_of_getElem? (i := 102) rfl)) rfl
theorem fw_6_12 : FW "CribbageRoom$State" 12 6 0 (.object "CribbageRoom$Table") := ⟨_, _, tyX6, rfl, inX6, by decide, lkI_6_12, tyX6_ok, nmX6, rfl, by decide +kernel⟩
theorem lkI_6_18 : Cond.fieldLink "CribbageRoom$State" 18 "CribbageRoom$State" "seenStarters" "[I" ∈ UW := uw_in (in_1 _ (List.mem_of_getElem? (i := 104) rfl)) rfl
theorem fw_6_18 : FW "CribbageRoom$State" 18 6 1 (.array .int) := ⟨_, _, tyX6, rfl, inX6, by decide, lkI_6_18, tyX6_ok, nmX6, rfl, by decide +kernel⟩
theorem lkI_6_22 : Cond.fieldLink "CribbageRoom$State" 22 "CribbageRoom$State" "seenCounts" "[I" ∈ UW := uw_in (in_1 _ (List.mem_of_getElem? (i := 107) rfl)) rfl
theorem fw_6_22 : FW "CribbageRoom$State" 22 6 2 (.array .int) := ⟨_, _, tyX6, rfl, inX6, by decide, lkI_6_22, tyX6_ok, nmX6, rfl, by decide +kernel⟩
theorem lkI_6_27 : Cond.fieldLink "CribbageRoom$State" 27 "CribbageRoom$State" "laws" "[LCribbageRoom$Text;" ∈ UW := uw_in (in_1 _ (List.mem_of_getElem? (i := 110) rfl)) rfl
theorem fw_6_27 : FW "CribbageRoom$State" 27 6 3 (.array (.object "CribbageRoom$Text")) := ⟨_, _, tyX6, rfl, inX6, by decide, lkI_6_27, tyX6_ok, nmX6, rfl, by decide +kernel⟩
theorem lkI_6_31 : Cond.fieldLink "CribbageRoom$State" 31 "CribbageRoom$State" "otherTerms" "[I" ∈ UW := uw_in (in_1 _ (List.mem_of_getElem? (i := 112) rfl)) rfl
theorem fw_6_31 : FW "CribbageRoom$State" 31 6 4 (.array .int) := ⟨_, _, tyX6, rfl, inX6, by decide, lkI_6_31, tyX6_ok, nmX6, rfl, by decide +kernel⟩
theorem lkI_6_34 : Cond.fieldLink "CribbageRoom$State" 34 "CribbageRoom$State" "inForce" "I" ∈ UW := uw_in (in_1 _ (List.mem_of_getElem? (i := 120) rfl)) rfl
theorem fw_6_34 : FW "CribbageRoom$State" 34 6 8 .int := ⟨_, _, tyX6, rfl, inX6, by decide, lkI_6_34, tyX6_ok, nmX6, rfl, by decide +kernel⟩
theorem lkI_7_9 : Cond.fieldLink "CribbageRoom$Sums" 9 "CribbageRoom$Sums" "words" "[I" ∈ UW := uw_in (in_2 _ (List.mem_of_getElem? (i := 6) rfl)) rfl
theorem fw_7_9 : FW "CribbageRoom$Sums" 9 7 0 (.array .int) := ⟨_, _, tyX7, rfl, inX7, by decide, lkI_7_9, tyX7_ok, nmX7, rfl, by decide +kernel⟩
theorem lkI_7_15 : Cond.fieldLink "CribbageRoom$Sums" 15 "CribbageRoom$Sums" "stack" "[J" ∈ UW := uw_in (in_2 _ (List.mem_of_getElem? (i := 7) rfl)) rfl
theorem fw_7_15 : FW "CribbageRoom$Sums" 15 7 1 (.array .long) := ⟨_, _, tyX7, rfl, inX7, by decide, lkI_7_15, tyX7_ok, nmX7, rfl, by decide +kernel⟩
theorem lkI_8_9 : Cond.fieldLink "CribbageRoom$Table" 9 "CribbageRoom$Table" "hands" "[J" ∈ UW := uw_in (in_1 _ (List.mem_of_getElem? (i := 43) rfl)) rfl
theorem fw_8_9 : FW "CribbageRoom$Table" 9 8 0 (.array .long) := ⟨_, _, tyX8, rfl, inX8, by decide, lkI_8_9, tyX8_ok, nmX8, rfl, by decide +kernel⟩
theorem lkI_8_15 : Cond.fieldLink "CribbageRoom$Table" 15 "CribbageRoom$Table" "pegs" "[I" ∈ UW := uw_in (in_1 _ (List.mem_of_getElem? (i := 45) rfl)) rfl
theorem fw_8_15 : FW "CribbageRoom$Table" 15 8 1 (.array .int) := ⟨_, _, tyX8, rfl, inX8, by decide, lkI_8_15, tyX8_ok, nmX8, rfl, by decide +kernel⟩
theorem lkI_8_19 : Cond.fieldLink "CribbageRoom$Table" 19 "CribbageRoom$Table" "line" "[I" ∈ UW := uw_in (in_1 _ (List.mem_of_getElem? (i := 47) rfl)) rfl
theorem fw_8_19 : FW "CribbageRoom$Table" 19 8 2 (.array .int) := ⟨_, _, tyX8, rfl, inX8, by decide, lkI_8_19, tyX8_ok, nmX8, rfl, by decide +kernel⟩
theorem lkI_8_22 : Cond.fieldLink "CribbageRoom$Table" 22 "CribbageRoom$Table" "phase" "I" ∈ UW := uw_in (in_1 _ (List.mem_of_getElem? (i := 52) rfl)) rfl
theorem fw_8_22 : FW "CribbageRoom$Table" 22 8 5 .int := ⟨_, _, tyX8, rfl, inX8, by decide, lkI_8_22, tyX8_ok, nmX8, rfl, by decide +kernel⟩
theorem lkI_8_26 : Cond.fieldLink "CribbageRoom$Table" 26 "CribbageRoom$Table" "dealer" "I" ∈ UW := uw_in (in_1 _ (List.mem_of_getElem? (i := 54) rfl)) rfl
theorem fw_8_26 : FW "CribbageRoom$Table" 26 8 6 .int := ⟨_, _, tyX8, rfl, inX8, by decide, lkI_8_26, tyX8_ok, nmX8, rfl, by decide +kernel⟩
theorem lkI_8_29 : Cond.fieldLink "CribbageRoom$Table" 29 "CribbageRoom$Table" "starter" "I" ∈ UW := uw_in (in_1 _ (List.mem_of_getElem? (i := 56) rfl)) rfl
theorem fw_8_29 : FW "CribbageRoom$Table" 29 8 7 .int := ⟨_, _, tyX8, rfl, inX8, by decide, lkI_8_29, tyX8_ok, nmX8, rfl, by decide +kernel⟩
theorem lkI_8_32 : Cond.fieldLink "CribbageRoom$Table" 32 "CribbageRoom$Table" "turn" "I" ∈ UW := uw_in (in_1 _ (List.mem_of_getElem? (i := 62) rfl)) rfl
theorem fw_8_32 : FW "CribbageRoom$Table" 32 8 10 .int := ⟨_, _, tyX8, rfl, inX8, by decide, lkI_8_32, tyX8_ok, nmX8, rfl, by decide +kernel⟩
theorem lkI_8_35 : Cond.fieldLink "CribbageRoom$Table" 35 "CribbageRoom$Table" "last" "I" ∈ UW := uw_in (in_1 _ (List.mem_of_getElem? (i := 65) rfl)) rfl
theorem fw_8_35 : FW "CribbageRoom$Table" 35 8 11 .int := ⟨_, _, tyX8, rfl, inX8, by decide, lkI_8_35, tyX8_ok, nmX8, rfl, by decide +kernel⟩
theorem lkI_9_9 : Cond.fieldLink "CribbageRoom$Text" 9 "CribbageRoom$Text" "code" "[I" ∈ UW := uw_in (in_1 _ (List.mem_of_getElem? (i := 182) rfl)) rfl
theorem fw_9_9 : FW "CribbageRoom$Text" 9 9 0 (.array .int) := ⟨_, _, tyX9, rfl, inX9, by decide, lkI_9_9, tyX9_ok, nmX9, rfl, by decide +kernel⟩
theorem lkI_9_15 : Cond.fieldLink "CribbageRoom$Text" 15 "CribbageRoom$Text" "clauses" "[I" ∈ UW := uw_in (in_1 _ (List.mem_of_getElem? (i := 184) rfl)) rfl
theorem fw_9_15 : FW "CribbageRoom$Text" 15 9 1 (.array .int) := ⟨_, _, tyX9, rfl, inX9, by decide, lkI_9_15, tyX9_ok, nmX9, rfl, by decide +kernel⟩
theorem lkI_10_12 : Cond.fieldLink "CribbageRoom$Worth" 12 "CribbageRoom$Worth" "sums" "LCribbageRoom$Sums;" ∈ UW := uw_in (in_2 _ (List.mem_of_getElem? (i := 38) rfl)) rfl
theorem fw_10_12 : FW "CribbageRoom$Worth" 12 10 0 (.object "CribbageRoom$Sums") := ⟨_, _, tyX10, rfl, inX10, by decide, lkI_10_12, tyX10_ok, nmX10, rfl, by decide +kernel⟩
theorem lkI_10_18 : Cond.fieldLink "CribbageRoom$Worth" 18 "CribbageRoom$Worth" "values" "[I" ∈ UW := uw_in (in_2 _ (List.mem_of_getElem? (i := 39) rfl)) rfl
theorem fw_10_18 : FW "CribbageRoom$Worth" 18 10 1 (.array .int) := ⟨_, _, tyX10, rfl, inX10, by decide, lkI_10_18, tyX10_ok, nmX10, rfl, by decide +kernel⟩
theorem lkI_10_24 : Cond.fieldLink "CribbageRoom$Worth" 24 "CribbageRoom$Worth" "counts" "[[I" ∈ UW := uw_in (in_2 _ (List.mem_of_getElem? (i := 40) rfl)) rfl
theorem fw_10_24 : FW "CribbageRoom$Worth" 24 10 2 (.array (.array .int)) := ⟨_, _, tyX10, rfl, inX10, by decide, lkI_10_24, tyX10_ok, nmX10, rfl, by decide +kernel⟩
theorem lkI_12_7 : Cond.fieldLink "CribbageRoomModel" 7 "CribbageRoomModel" "refusals" "[I" ∈ UW := uw_in (in_6 _ (List.mem_of_getElem? (i := 72) rfl)) rfl
theorem fw_12_7 : FW "CribbageRoomModel" 7 12 2 (.array .int) := ⟨_, _, tyX12, rfl, inX12, by decide, lkI_12_7, tyX12_ok, nmX12, rfl, by decide +kernel⟩
theorem lkI_12_13 : Cond.fieldLink "CribbageRoomModel" 13 "CribbageRoomModel" "row" "[I" ∈ UW := uw_in (in_6 _ (List.mem_of_getElem? (i := 73) rfl)) rfl
theorem fw_12_13 : FW "CribbageRoomModel" 13 12 3 (.array .int) := ⟨_, _, tyX12, rfl, inX12, by decide, lkI_12_13, tyX12_ok, nmX12, rfl, by decide +kernel⟩
theorem flI_12_13 : FL "CribbageRoomModel" 13 12 3 := ⟨_, _, rfl, inX12, by decide, lkI_12_13⟩
theorem lkI_12_16 : Cond.fieldLink "CribbageRoomModel" 16 "CribbageRoomModel" "images" "[I" ∈ UW := uw_in (in_6 _ (List.mem_of_getElem? (i := 74) rfl)) rfl
theorem fw_12_16 : FW "CribbageRoomModel" 16 12 4 (.array .int) := ⟨_, _, tyX12, rfl, inX12, by decide, lkI_12_16, tyX12_ok, nmX12, rfl, by decide +kernel⟩
theorem lkI_12_19 : Cond.fieldLink "CribbageRoomModel" 19 "CribbageRoomModel" "isKept" "[Z" ∈ UW := uw_in (in_6 _ (List.mem_of_getElem? (i := 75) rfl)) rfl
theorem fw_12_19 : FW "CribbageRoomModel" 19 12 5 (.array .boolean) := ⟨_, _, tyX12, rfl, inX12, by decide, lkI_12_19, tyX12_ok, nmX12, rfl, by decide +kernel⟩
theorem lkI_12_23 : Cond.fieldLink "CribbageRoomModel" 23 "CribbageRoomModel" "undos" "[I" ∈ UW := uw_in (in_6 _ (List.mem_of_getElem? (i := 76) rfl)) rfl
theorem fw_12_23 : FW "CribbageRoomModel" 23 12 6 (.array .int) := ⟨_, _, tyX12, rfl, inX12, by decide, lkI_12_23, tyX12_ok, nmX12, rfl, by decide +kernel⟩
theorem lkI_12_26 : Cond.fieldLink "CribbageRoomModel" 26 "CribbageRoomModel" "sorts" "[I" ∈ UW := uw_in (in_6 _ (List.mem_of_getElem? (i := 77) rfl)) rfl
theorem fw_12_26 : FW "CribbageRoomModel" 26 12 7 (.array .int) := ⟨_, _, tyX12, rfl, inX12, by decide, lkI_12_26, tyX12_ok, nmX12, rfl, by decide +kernel⟩
theorem lkI_12_29 : Cond.fieldLink "CribbageRoomModel" 29 "CribbageRoomModel" "undosBefore" "[I" ∈ UW := uw_in (in_6 _ (List.mem_of_getElem? (i := 79) rfl)) rfl
theorem fw_12_29 : FW "CribbageRoomModel" 29 12 9 (.array .int) := ⟨_, _, tyX12, rfl, inX12, by decide, lkI_12_29, tyX12_ok, nmX12, rfl, by decide +kernel⟩
theorem lkI_12_32 : Cond.fieldLink "CribbageRoomModel" 32 "CribbageRoomModel" "sortsBefore" "[I" ∈ UW := uw_in (in_6 _ (List.mem_of_getElem? (i := 80) rfl)) rfl
theorem fw_12_32 : FW "CribbageRoomModel" 32 12 10 (.array .int) := ⟨_, _, tyX12, rfl, inX12, by decide, lkI_12_32, tyX12_ok, nmX12, rfl, by decide +kernel⟩
theorem lkI_12_35 : Cond.fieldLink "CribbageRoomModel" 35 "CribbageRoomModel" "tape" "[I" ∈ UW := uw_in (in_6 _ (List.mem_of_getElem? (i := 82) rfl)) rfl
theorem fw_12_35 : FW "CribbageRoomModel" 35 12 12 (.array .int) := ⟨_, _, tyX12, rfl, inX12, by decide, lkI_12_35, tyX12_ok, nmX12, rfl, by decide +kernel⟩
theorem lkI_12_38 : Cond.fieldLink "CribbageRoomModel" 38 "CribbageRoomModel" "fault" "I" ∈ UW := uw_in (in_6 _ (List.mem_of_getElem? (i := 88) rfl)) rfl
theorem fw_12_38 : FW "CribbageRoomModel" 38 12 18 .int := ⟨_, _, tyX12, rfl, inX12, by decide, lkI_12_38, tyX12_ok, nmX12, rfl, by decide +kernel⟩
theorem lkI_12_42 : Cond.fieldLink "CribbageRoomModel" 42 "CribbageRoomModel" "nClause" "[I" ∈ UW := uw_in (in_6 _ (List.mem_of_getElem? (i := 92) rfl)) rfl
theorem fw_12_42 : FW "CribbageRoomModel" 42 12 22 (.array .int) := ⟨_, _, tyX12, rfl, inX12, by decide, lkI_12_42, tyX12_ok, nmX12, rfl, by decide +kernel⟩
theorem lkI_12_45 : Cond.fieldLink "CribbageRoomModel" 45 "CribbageRoomModel" "nOp" "[I" ∈ UW := uw_in (in_6 _ (List.mem_of_getElem? (i := 94) rfl)) rfl
theorem fw_12_45 : FW "CribbageRoomModel" 45 12 24 (.array .int) := ⟨_, _, tyX12, rfl, inX12, by decide, lkI_12_45, tyX12_ok, nmX12, rfl, by decide +kernel⟩
theorem lkI_12_48 : Cond.fieldLink "CribbageRoomModel" 48 "CribbageRoomModel" "nArg" "[I" ∈ UW := uw_in (in_6 _ (List.mem_of_getElem? (i := 95) rfl)) rfl
theorem fw_12_48 : FW "CribbageRoomModel" 48 12 25 (.array .int) := ⟨_, _, tyX12, rfl, inX12, by decide, lkI_12_48, tyX12_ok, nmX12, rfl, by decide +kernel⟩
theorem lkI_12_51 : Cond.fieldLink "CribbageRoomModel" 51 "CribbageRoomModel" "pile" "[I" ∈ UW := uw_in (in_6 _ (List.mem_of_getElem? (i := 97) rfl)) rfl
theorem fw_12_51 : FW "CribbageRoomModel" 51 12 27 (.array .int) := ⟨_, _, tyX12, rfl, inX12, by decide, lkI_12_51, tyX12_ok, nmX12, rfl, by decide +kernel⟩
theorem lkI_12_54 : Cond.fieldLink "CribbageRoomModel" 54 "CribbageRoomModel" "pileAt" "[I" ∈ UW := uw_in (in_6 _ (List.mem_of_getElem? (i := 98) rfl)) rfl
theorem fw_12_54 : FW "CribbageRoomModel" 54 12 28 (.array .int) := ⟨_, _, tyX12, rfl, inX12, by decide, lkI_12_54, tyX12_ok, nmX12, rfl, by decide +kernel⟩
theorem lkI_12_69 : Cond.fieldLink "CribbageRoomModel" 69 "CribbageRoomModel" "words" "[J" ∈ UW := uw_in (in_6 _ (List.mem_of_getElem? (i := 101) rfl)) rfl
theorem fw_12_69 : FW "CribbageRoomModel" 69 12 31 (.array .long) := ⟨_, _, tyX12, rfl, inX12, by decide, lkI_12_69, tyX12_ok, nmX12, rfl, by decide +kernel⟩
theorem lkI_12_87 : Cond.fieldLink "CribbageRoomModel" 87 "CribbageRoomModel" "orderWords" "[J" ∈ UW := uw_in (in_6 _ (List.mem_of_getElem? (i := 102) rfl)) rfl
theorem fw_12_87 : FW "CribbageRoomModel" 87 12 32 (.array .long) := ⟨_, _, tyX12, rfl, inX12, by decide, lkI_12_87, tyX12_ok, nmX12, rfl, by decide +kernel⟩
theorem lkI_12_104 : Cond.fieldLink "CribbageRoomModel" 104 "CribbageRoomModel" "heads" "[J" ∈ UW := uw_in (in_6 _ (List.mem_of_getElem? (i := 103) rfl)) rfl
theorem fw_12_104 : FW "CribbageRoomModel" 104 12 33 (.array .long) := ⟨_, _, tyX12, rfl, inX12, by decide, lkI_12_104, tyX12_ok, nmX12, rfl, by decide +kernel⟩
theorem lkI_12_107 : Cond.fieldLink "CribbageRoomModel" 107 "CribbageRoomModel" "set" "[J" ∈ UW := uw_in (in_6 _ (List.mem_of_getElem? (i := 105) rfl)) rfl
theorem fw_12_107 : FW "CribbageRoomModel" 107 12 35 (.array .long) := ⟨_, _, tyX12, rfl, inX12, by decide, lkI_12_107, tyX12_ok, nmX12, rfl, by decide +kernel⟩
theorem lkI_12_110 : Cond.fieldLink "CribbageRoomModel" 110 "CribbageRoomModel" "now" "[J" ∈ UW := uw_in (in_6 _ (List.mem_of_getElem? (i := 106) rfl)) rfl
theorem fw_12_110 : FW "CribbageRoomModel" 110 12 36 (.array .long) := ⟨_, _, tyX12, rfl, inX12, by decide, lkI_12_110, tyX12_ok, nmX12, rfl, by decide +kernel⟩
theorem lkI_12_113 : Cond.fieldLink "CribbageRoomModel" 113 "CribbageRoomModel" "rest" "[J" ∈ UW := uw_in (in_6 _ (List.mem_of_getElem? (i := 107) rfl)) rfl
theorem fw_12_113 : FW "CribbageRoomModel" 113 12 37 (.array .long) := ⟨_, _, tyX12, rfl, inX12, by decide, lkI_12_113, tyX12_ok, nmX12, rfl, by decide +kernel⟩
theorem lkI_12_116 : Cond.fieldLink "CribbageRoomModel" 116 "CribbageRoomModel" "values" "[I" ∈ UW := uw_in (in_6 _ (List.mem_of_getElem? (i := 111) rfl)) rfl
theorem fw_12_116 : FW "CribbageRoomModel" 116 12 41 (.array .int) := ⟨_, _, tyX12, rfl, inX12, by decide, lkI_12_116, tyX12_ok, nmX12, rfl, by decide +kernel⟩
theorem lkI_12_119 : Cond.fieldLink "CribbageRoomModel" 119 "CribbageRoomModel" "fifteens" "[I" ∈ UW := uw_in (in_6 _ (List.mem_of_getElem? (i := 112) rfl)) rfl
theorem fw_12_119 : FW "CribbageRoomModel" 119 12 42 (.array .int) := ⟨_, _, tyX12, rfl, inX12, by decide, lkI_12_119, tyX12_ok, nmX12, rfl, by decide +kernel⟩
theorem lkI_12_122 : Cond.fieldLink "CribbageRoomModel" 122 "CribbageRoomModel" "pairs" "[I" ∈ UW := uw_in (in_6 _ (List.mem_of_getElem? (i := 113) rfl)) rfl
theorem fw_12_122 : FW "CribbageRoomModel" 122 12 43 (.array .int) := ⟨_, _, tyX12, rfl, inX12, by decide, lkI_12_122, tyX12_ok, nmX12, rfl, by decide +kernel⟩
theorem lkI_12_125 : Cond.fieldLink "CribbageRoomModel" 125 "CribbageRoomModel" "runs" "[I" ∈ UW := uw_in (in_6 _ (List.mem_of_getElem? (i := 114) rfl)) rfl
theorem fw_12_125 : FW "CribbageRoomModel" 125 12 44 (.array .int) := ⟨_, _, tyX12, rfl, inX12, by decide, lkI_12_125, tyX12_ok, nmX12, rfl, by decide +kernel⟩
theorem lkI_12_128 : Cond.fieldLink "CribbageRoomModel" 128 "CribbageRoomModel" "flushes" "[I" ∈ UW := uw_in (in_6 _ (List.mem_of_getElem? (i := 115) rfl)) rfl
theorem fw_12_128 : FW "CribbageRoomModel" 128 12 45 (.array .int) := ⟨_, _, tyX12, rfl, inX12, by decide, lkI_12_128, tyX12_ok, nmX12, rfl, by decide +kernel⟩
theorem lkI_12_131 : Cond.fieldLink "CribbageRoomModel" 131 "CribbageRoomModel" "nobs" "[I" ∈ UW := uw_in (in_6 _ (List.mem_of_getElem? (i := 116) rfl)) rfl
theorem fw_12_131 : FW "CribbageRoomModel" 131 12 46 (.array .int) := ⟨_, _, tyX12, rfl, inX12, by decide, lkI_12_131, tyX12_ok, nmX12, rfl, by decide +kernel⟩
theorem lkI_12_134 : Cond.fieldLink "CribbageRoomModel" 134 "CribbageRoomModel" "five" "[I" ∈ UW := uw_in (in_6 _ (List.mem_of_getElem? (i := 117) rfl)) rfl
theorem fw_12_134 : FW "CribbageRoomModel" 134 12 47 (.array .int) := ⟨_, _, tyX12, rfl, inX12, by decide, lkI_12_134, tyX12_ok, nmX12, rfl, by decide +kernel⟩
theorem lkI_12_137 : Cond.fieldLink "CribbageRoomModel" 137 "CribbageRoomModel" "amounts" "[I" ∈ UW := uw_in (in_6 _ (List.mem_of_getElem? (i := 118) rfl)) rfl
theorem fw_12_137 : FW "CribbageRoomModel" 137 12 48 (.array .int) := ⟨_, _, tyX12, rfl, inX12, by decide, lkI_12_137, tyX12_ok, nmX12, rfl, by decide +kernel⟩
theorem lkI_12_140 : Cond.fieldLink "CribbageRoomModel" 140 "CribbageRoomModel" "byRank" "[I" ∈ UW := uw_in (in_6 _ (List.mem_of_getElem? (i := 119) rfl)) rfl
theorem fw_12_140 : FW "CribbageRoomModel" 140 12 49 (.array .int) := ⟨_, _, tyX12, rfl, inX12, by decide, lkI_12_140, tyX12_ok, nmX12, rfl, by decide +kernel⟩
theorem lkI_12_143 : Cond.fieldLink "CribbageRoomModel" 143 "CribbageRoomModel" "pack" "[I" ∈ UW := uw_in (in_6 _ (List.mem_of_getElem? (i := 121) rfl)) rfl
theorem fw_12_143 : FW "CribbageRoomModel" 143 12 51 (.array .int) := ⟨_, _, tyX12, rfl, inX12, by decide, lkI_12_143, tyX12_ok, nmX12, rfl, by decide +kernel⟩
theorem lkI_12_146 : Cond.fieldLink "CribbageRoomModel" 146 "CribbageRoomModel" "six" "[I" ∈ UW := uw_in (in_6 _ (List.mem_of_getElem? (i := 122) rfl)) rfl
theorem fw_12_146 : FW "CribbageRoomModel" 146 12 52 (.array .int) := ⟨_, _, tyX12, rfl, inX12, by decide, lkI_12_146, tyX12_ok, nmX12, rfl, by decide +kernel⟩
theorem lkI_12_149 : Cond.fieldLink "CribbageRoomModel" 149 "CribbageRoomModel" "deeps" "[I" ∈ UW := uw_in (in_6 _ (List.mem_of_getElem? (i := 123) rfl)) rfl
theorem fw_12_149 : FW "CribbageRoomModel" 149 12 53 (.array .int) := ⟨_, _, tyX12, rfl, inX12, by decide, lkI_12_149, tyX12_ok, nmX12, rfl, by decide +kernel⟩
theorem lkI_12_152 : Cond.fieldLink "CribbageRoomModel" 152 "CribbageRoomModel" "cardAt" "[I" ∈ UW := uw_in (in_6 _ (List.mem_of_getElem? (i := 124) rfl)) rfl
theorem fw_12_152 : FW "CribbageRoomModel" 152 12 54 (.array .int) := ⟨_, _, tyX12, rfl, inX12, by decide, lkI_12_152, tyX12_ok, nmX12, rfl, by decide +kernel⟩
theorem lkI_12_155 : Cond.fieldLink "CribbageRoomModel" 155 "CribbageRoomModel" "gainAt" "[I" ∈ UW := uw_in (in_6 _ (List.mem_of_getElem? (i := 125) rfl)) rfl
theorem fw_12_155 : FW "CribbageRoomModel" 155 12 55 (.array .int) := ⟨_, _, tyX12, rfl, inX12, by decide, lkI_12_155, tyX12_ok, nmX12, rfl, by decide +kernel⟩
theorem lkI_12_158 : Cond.fieldLink "CribbageRoomModel" 158 "CribbageRoomModel" "bestAt" "[I" ∈ UW := uw_in (in_6 _ (List.mem_of_getElem? (i := 126) rfl)) rfl
theorem fw_12_158 : FW "CribbageRoomModel" 158 12 56 (.array .int) := ⟨_, _, tyX12, rfl, inX12, by decide, lkI_12_158, tyX12_ok, nmX12, rfl, by decide +kernel⟩
theorem lkI_12_161 : Cond.fieldLink "CribbageRoomModel" 161 "CribbageRoomModel" "bestCard" "[I" ∈ UW := uw_in (in_6 _ (List.mem_of_getElem? (i := 127) rfl)) rfl
theorem fw_12_161 : FW "CribbageRoomModel" 161 12 57 (.array .int) := ⟨_, _, tyX12, rfl, inX12, by decide, lkI_12_161, tyX12_ok, nmX12, rfl, by decide +kernel⟩
theorem lkI_12_164 : Cond.fieldLink "CribbageRoomModel" 164 "CribbageRoomModel" "countsOf" "[I" ∈ UW := uw_in (in_6 _ (List.mem_of_getElem? (i := 128) rfl)) rfl
theorem fw_12_164 : FW "CribbageRoomModel" 164 12 58 (.array .int) := ⟨_, _, tyX12, rfl, inX12, by decide, lkI_12_164, tyX12_ok, nmX12, rfl, by decide +kernel⟩
theorem lkI_12_167 : Cond.fieldLink "CribbageRoomModel" 167 "CribbageRoomModel" "parts" "[J" ∈ UW := uw_in (in_6 _ (List.mem_of_getElem? (i := 129) rfl)) rfl
theorem fw_12_167 : FW "CribbageRoomModel" 167 12 59 (.array .long) := ⟨_, _, tyX12, rfl, inX12, by decide, lkI_12_167, tyX12_ok, nmX12, rfl, by decide +kernel⟩
theorem lkI_12_176 : Cond.fieldLink "CribbageRoomModel" 176 "CribbageRoomModel" "acts" "[J" ∈ UW := uw_in (in_6 _ (List.mem_of_getElem? (i := 130) rfl)) rfl
theorem fw_12_176 : FW "CribbageRoomModel" 176 12 60 (.array .long) := ⟨_, _, tyX12, rfl, inX12, by decide, lkI_12_176, tyX12_ok, nmX12, rfl, by decide +kernel⟩
theorem lkI_12_179 : Cond.fieldLink "CribbageRoomModel" 179 "CribbageRoomModel" "nOrder" "[I" ∈ UW := uw_in (in_6 _ (List.mem_of_getElem? (i := 131) rfl)) rfl
theorem fw_12_179 : FW "CribbageRoomModel" 179 12 61 (.array .int) := ⟨_, _, tyX12, rfl, inX12, by decide, lkI_12_179, tyX12_ok, nmX12, rfl, by decide +kernel⟩
theorem lkI_12_182 : Cond.fieldLink "CribbageRoomModel" 182 "CribbageRoomModel" "stopped" "I" ∈ UW := uw_in (in_6 _ (List.mem_of_getElem? (i := 134) rfl)) rfl
theorem fw_12_182 : FW "CribbageRoomModel" 182 12 64 .int := ⟨_, _, tyX12, rfl, inX12, by decide, lkI_12_182, tyX12_ok, nmX12, rfl, by decide +kernel⟩
theorem lkI_12_185 : Cond.fieldLink "CribbageRoomModel" 185 "CribbageRoomModel" "drawn" "[I" ∈ UW := uw_in (in_6 _ (List.mem_of_getElem? (i := 136) rfl)) rfl
theorem fw_12_185 : FW "CribbageRoomModel" 185 12 66 (.array .int) := ⟨_, _, tyX12, rfl, inX12, by decide, lkI_12_185, tyX12_ok, nmX12, rfl, by decide +kernel⟩
theorem kc_12_57 : Cond.constantLong "CribbageRoomModel" 57 591307 ∈ UW := uw_in (in_6 _ (List.mem_of_getElem? (i := 47) rfl)) rfl
theorem kc_12_59 : Cond.constantLong "CribbageRoomModel" 59 644404 ∈ UW := uw_in (in_6 _ (List.mem_of_getElem? (i := 48) rfl)) rfl
theorem kc_12_61 : Cond.constantLong "CribbageRoomModel" 61 632645 ∈ UW := uw_in (in_6 _ (List.mem_of_getElem? (i := 49) rfl)) rfl
theorem kc_12_63 : Cond.constantLong "CribbageRoomModel" 63 117026 ∈ UW := uw_in (in_6 _ (List.mem_of_getElem? (i := 50) rfl)) rfl
theorem kc_12_65 : Cond.constantLong "CribbageRoomModel" 65 136236 ∈ UW := uw_in (in_6 _ (List.mem_of_getElem? (i := 51) rfl)) rfl
theorem kc_12_67 : Cond.constantLong "CribbageRoomModel" 67 441828 ∈ UW := uw_in (in_6 _ (List.mem_of_getElem? (i := 52) rfl)) rfl
theorem kc_12_73 : Cond.constantLong "CribbageRoomModel" 73 17040997 ∈ UW := uw_in (in_6 _ (List.mem_of_getElem? (i := 53) rfl)) rfl
theorem kc_12_75 : Cond.constantLong "CribbageRoomModel" 75 146885 ∈ UW := uw_in (in_6 _ (List.mem_of_getElem? (i := 54) rfl)) rfl
theorem kc_12_77 : Cond.constantLong "CribbageRoomModel" 77 404362868 ∈ UW := uw_in (in_6 _ (List.mem_of_getElem? (i := 55) rfl)) rfl
theorem kc_12_79 : Cond.constantLong "CribbageRoomModel" 79 3659220 ∈ UW := uw_in (in_6 _ (List.mem_of_getElem? (i := 56) rfl)) rfl
theorem kc_12_81 : Cond.constantLong "CribbageRoomModel" 81 677454 ∈ UW := uw_in (in_6 _ (List.mem_of_getElem? (i := 57) rfl)) rfl
theorem kc_12_83 : Cond.constantLong "CribbageRoomModel" 83 529651 ∈ UW := uw_in (in_6 _ (List.mem_of_getElem? (i := 58) rfl)) rfl
theorem kc_12_85 : Cond.constantLong "CribbageRoomModel" 85 99908 ∈ UW := uw_in (in_6 _ (List.mem_of_getElem? (i := 59) rfl)) rfl
theorem kc_12_90 : Cond.constantLong "CribbageRoomModel" 90 23114405 ∈ UW := uw_in (in_6 _ (List.mem_of_getElem? (i := 60) rfl)) rfl
theorem kc_12_92 : Cond.constantLong "CribbageRoomModel" 92 6751392942 ∈ UW := uw_in (in_6 _ (List.mem_of_getElem? (i := 61) rfl)) rfl
theorem kc_12_94 : Cond.constantLong "CribbageRoomModel" 94 525618 ∈ UW := uw_in (in_6 _ (List.mem_of_getElem? (i := 62) rfl)) rfl
theorem kc_12_96 : Cond.constantLong "CribbageRoomModel" 96 19118 ∈ UW := uw_in (in_6 _ (List.mem_of_getElem? (i := 63) rfl)) rfl
theorem kc_12_98 : Cond.constantLong "CribbageRoomModel" 98 6706792 ∈ UW := uw_in (in_6 _ (List.mem_of_getElem? (i := 64) rfl)) rfl
theorem kc_12_100 : Cond.constantLong "CribbageRoomModel" 100 14818 ∈ UW := uw_in (in_6 _ (List.mem_of_getElem? (i := 65) rfl)) rfl
theorem kc_12_102 : Cond.constantLong "CribbageRoomModel" 102 67155 ∈ UW := uw_in (in_6 _ (List.mem_of_getElem? (i := 66) rfl)) rfl
theorem kc_12_172 : Cond.constantLong "CribbageRoomModel" 172 536633 ∈ UW := uw_in (in_6 _ (List.mem_of_getElem? (i := 68) rfl)) rfl
theorem kc_12_174 : Cond.constantLong "CribbageRoomModel" 174 631287 ∈ UW := uw_in (in_6 _ (List.mem_of_getElem? (i := 69) rfl)) rfl
theorem gsI_11_92 : Cond.fieldLink "CribbageRoom" 92 "CribbageRoom" "REFUSALS" "[I" ∈ UW := uw_in (in_2 _ (List.mem_of_getElem? (i := 177) rfl)) rfl
theorem mlI_11_3 : Cond.methodLink "CribbageRoom" 3 Lib.objectInit ∈ UW := uw_in (in_1 _ (List.mem_of_getElem? (i := 28) rfl)) rfl
theorem mlI_11_11 : Cond.methodLinkNest "CribbageRoom" 11 ({ cls := "CribbageRoom$State", name := "<init>", desc := "()V" } : Jvm.MethodName) "CribbageRoom" ∈ UW := uw_in (in_1 _ (List.mem_of_getElem? (i := 33) rfl)) rfl
theorem mlI_11_22 : Cond.methodLink "CribbageRoom" 22 ({ cls := "CribbageRoom$History", name := "<init>", desc := "()V" } : Jvm.MethodName) ∈ UW := uw_in (in_1 _ (List.mem_of_getElem? (i := 147) rfl)) rfl
theorem mlI_11_32 : Cond.methodLinkNest "CribbageRoom" 32 ({ cls := "CribbageRoom$Table", name := "<init>", desc := "()V" } : Jvm.MethodName) "CribbageRoom" ∈ UW := uw_in (in_1 _ (List.mem_of_getElem? (i := 169) rfl)) rfl
theorem mlI_11_42 : Cond.methodLinkNest "CribbageRoom" 42 ({ cls := "CribbageRoom$Reader", name := "<init>", desc := "()V" } : Jvm.MethodName) "CribbageRoom" ∈ UW := uw_in (in_1 _ (List.mem_of_getElem? (i := 172) rfl)) rfl
theorem mlI_11_49 : Cond.methodLinkNest "CribbageRoom" 49 ({ cls := "CribbageRoom$Sums", name := "<init>", desc := "()V" } : Jvm.MethodName) "CribbageRoom" ∈ UW := uw_in (in_2 _ (List.mem_of_getElem? (i := 2) rfl)) rfl
theorem mlI_11_56 : Cond.methodLinkNest "CribbageRoom" 56 ({ cls := "CribbageRoom$Worth", name := "<init>", desc := "()V" } : Jvm.MethodName) "CribbageRoom" ∈ UW := uw_in (in_2 _ (List.mem_of_getElem? (i := 30) rfl)) rfl
theorem mlI_11_66 : Cond.methodLinkNest "CribbageRoom" 66 ({ cls := "CribbageRoom$Four", name := "<init>", desc := "()V" } : Jvm.MethodName) "CribbageRoom" ∈ UW := uw_in (in_2 _ (List.mem_of_getElem? (i := 73) rfl)) rfl
theorem mlI_11_73 : Cond.methodLinkNest "CribbageRoom" 73 ({ cls := "CribbageRoom$Fours", name := "<init>", desc := "()V" } : Jvm.MethodName) "CribbageRoom" ∈ UW := uw_in (in_2 _ (List.mem_of_getElem? (i := 110) rfl)) rfl
theorem mlI_11_80 : Cond.methodLinkNest "CribbageRoom" 80 ({ cls := "CribbageRoom$CribSum", name := "<init>", desc := "()V" } : Jvm.MethodName) "CribbageRoom" ∈ UW := uw_in (in_2 _ (List.mem_of_getElem? (i := 130) rfl)) rfl
theorem mlI_11_87 : Cond.methodLink "CribbageRoom" 87 ({ cls := "CribbageRoom$Ending", name := "<init>", desc := "()V" } : Jvm.MethodName) ∈ UW := uw_in (in_2 _ (List.mem_of_getElem? (i := 163) rfl)) rfl
theorem mlI_0_3 : Cond.methodLink "CribbageRoom$CribSum" 3 Lib.objectInit ∈ UW := uw_in (in_2 _ (List.mem_of_getElem? (i := 133) rfl)) rfl
theorem mlI_1_3 : Cond.methodLink "CribbageRoom$Ending" 3 Lib.objectInit ∈ UW := uw_in (in_2 _ (List.mem_of_getElem? (i := 166) rfl)) rfl
theorem mlI_1_17 : Cond.methodLinkNest "CribbageRoom$Ending" 17 ({ cls := "CribbageRoom$Table", name := "<init>", desc := "()V" } : Jvm.MethodName) "CribbageRoom" ∈ UW := uw_in (in_2 _ (List.mem_of_getElem? (i := 168) rfl)) rfl
theorem mlI_2_3 : Cond.methodLink "CribbageRoom$Four" 3 Lib.objectInit ∈ UW := uw_in (in_2 _ (List.mem_of_getElem? (i := 76) rfl)) rfl
theorem mlI_3_3 : Cond.methodLink "CribbageRoom$Fours" 3 Lib.objectInit ∈ UW := uw_in (in_2 _ (List.mem_of_getElem? (i := 113) rfl)) rfl
theorem mlI_4_3 : Cond.methodLink "CribbageRoom$History" 3 Lib.objectInit ∈ UW := uw_in (in_1 _ (List.mem_of_getElem? (i := 150) rfl)) rfl
theorem mlI_4_21 : Cond.methodLinkNest "CribbageRoom$History" 21 ({ cls := "CribbageRoom$Table", name := "<init>", desc := "()V" } : Jvm.MethodName) "CribbageRoom" ∈ UW := uw_in (in_1 _ (List.mem_of_getElem? (i := 153) rfl)) rfl
theorem mlI_5_3 : Cond.methodLink "CribbageRoom$Reader" 3 Lib.objectInit ∈ UW := uw_in (in_1 _ (List.mem_of_getElem? (i := 175) rfl)) rfl
theorem mlI_5_17 : Cond.methodLink "CribbageRoom$Reader" 17 ({ cls := "CribbageRoom$Text", name := "<init>", desc := "()V" } : Jvm.MethodName) ∈ UW := uw_in (in_1 _ (List.mem_of_getElem? (i := 178) rfl)) rfl
theorem mlI_6_3 : Cond.methodLink "CribbageRoom$State" 3 Lib.objectInit ∈ UW := uw_in (in_1 _ (List.mem_of_getElem? (i := 36) rfl)) rfl
theorem mlI_6_11 : Cond.methodLinkNest "CribbageRoom$State" 11 ({ cls := "CribbageRoom$Table", name := "<init>", desc := "()V" } : Jvm.MethodName) "CribbageRoom" ∈ UW := uw_in (in_1 _ (List.mem_of_getElem? (i := 39) rfl)) rfl
theorem mlI_7_3 : Cond.methodLink "CribbageRoom$Sums" 3 Lib.objectInit ∈ UW := uw_in (in_2 _ (List.mem_of_getElem? (i := 5) rfl)) rfl
theorem mlI_8_3 : Cond.methodLink "CribbageRoom$Table" 3 Lib.objectInit ∈ UW := uw_in (in_1 _ (List.mem_of_getElem? (i := 42) rfl)) rfl
theorem mlI_9_3 : Cond.methodLink "CribbageRoom$Text" 3 Lib.objectInit ∈ UW := uw_in (in_1 _ (List.mem_of_getElem? (i := 181) rfl)) rfl
theorem mlI_10_3 : Cond.methodLink "CribbageRoom$Worth" 3 Lib.objectInit ∈ UW := uw_in (in_2 _ (List.mem_of_getElem? (i := 33) rfl)) rfl
theorem mlI_10_11 : Cond.methodLinkNest "CribbageRoom$Worth" 11 ({ cls := "CribbageRoom$Sums", name := "<init>", desc := "()V" } : Jvm.MethodName) "CribbageRoom" ∈ UW := uw_in (in_2 _ (List.mem_of_getElem? (i := 35) rfl)) rfl
theorem mlI_12_1 : Cond.methodLink "CribbageRoomModel" 1 Lib.objectInit ∈ UW := uw_in (in_6 _ (List.mem_of_getElem? (i := 46) rfl)) rfl
theorem cl_11_9 : Cond.classLink "CribbageRoom" 9 "CribbageRoom$State" ∈ UW := uw_in (in_1 _ (List.mem_of_getElem? (i := 31) rfl)) rfl
theorem cl_11_20 : Cond.classLink "CribbageRoom" 20 "CribbageRoom$History" ∈ UW := uw_in (in_1 _ (List.mem_of_getElem? (i := 145) rfl)) rfl
theorem cl_11_30 : Cond.classLink "CribbageRoom" 30 "CribbageRoom$Table" ∈ UW := uw_in (in_1 _ (List.mem_of_getElem? (i := 168) rfl)) rfl
theorem cl_11_40 : Cond.classLink "CribbageRoom" 40 "CribbageRoom$Reader" ∈ UW := uw_in (in_1 _ (List.mem_of_getElem? (i := 170) rfl)) rfl
theorem cl_11_47 : Cond.classLink "CribbageRoom" 47 "CribbageRoom$Sums" ∈ UW := uw_in (in_2 _ (List.mem_of_getElem? (i := 0) rfl)) rfl
theorem cl_11_54 : Cond.classLink "CribbageRoom" 54 "CribbageRoom$Worth" ∈ UW := uw_in (in_2 _ (List.mem_of_getElem? (i := 28) rfl)) rfl
theorem cl_11_64 : Cond.classLink "CribbageRoom" 64 "CribbageRoom$Four" ∈ UW := uw_in (in_2 _ (List.mem_of_getElem? (i := 71) rfl)) rfl
theorem cl_11_71 : Cond.classLink "CribbageRoom" 71 "CribbageRoom$Fours" ∈ UW := uw_in (in_2 _ (List.mem_of_getElem? (i := 108) rfl)) rfl
theorem cl_11_78 : Cond.classLink "CribbageRoom" 78 "CribbageRoom$CribSum" ∈ UW := uw_in (in_2 _ (List.mem_of_getElem? (i := 128) rfl)) rfl
theorem cl_11_85 : Cond.classLink "CribbageRoom" 85 "CribbageRoom$Ending" ∈ UW := uw_in (in_2 _ (List.mem_of_getElem? (i := 161) rfl)) rfl
theorem cl_0_9 : Cond.classLink "CribbageRoom$CribSum" 9 ("[" ++ (FieldType.array .long).toString) ∈ UW := uw_in (in_2 _ (List.mem_of_getElem? (i := 134) rfl)) rfl
theorem cl_1_9 : Cond.classLink "CribbageRoom$Ending" 9 "CribbageRoom$Table" ∈ UW := uw_in (in_2 _ (List.mem_of_getElem? (i := 167) rfl)) rfl
theorem cl_3_9 : Cond.classLink "CribbageRoom$Fours" 9 ("[" ++ (FieldType.array .int).toString) ∈ UW := uw_in (in_2 _ (List.mem_of_getElem? (i := 114) rfl)) rfl
theorem cl_4_11 : Cond.classLink "CribbageRoom$History" 11 "CribbageRoom$Table" ∈ UW := uw_in (in_1 _ (List.mem_of_getElem? (i := 151) rfl)) rfl
theorem cl_5_15 : Cond.classLink "CribbageRoom$Reader" 15 "CribbageRoom$Text" ∈ UW := uw_in (in_1 _ (List.mem_of_getElem? (i := 176) rfl)) rfl
theorem cl_6_9 : Cond.classLink "CribbageRoom$State" 9 "CribbageRoom$Table" ∈ UW := uw_in (in_1 _ (List.mem_of_getElem? (i := 37) rfl)) rfl
theorem cl_6_25 : Cond.classLink "CribbageRoom$State" 25 "CribbageRoom$Text" ∈ UW := uw_in (in_1 _ (List.mem_of_getElem? (i := 100) rfl)) rfl
theorem cl_10_9 : Cond.classLink "CribbageRoom$Worth" 9 "CribbageRoom$Sums" ∈ UW := uw_in (in_2 _ (List.mem_of_getElem? (i := 34) rfl)) rfl
theorem cl_10_22 : Cond.classLink "CribbageRoom$Worth" 22 ("[" ++ (FieldType.array .int).toString) ∈ UW := uw_in (in_2 _ (List.mem_of_getElem? (i := 36) rfl)) rfl
theorem mdI_X0_init : MD ({ cls := "CribbageRoom$CribSum", name := "<init>", desc := "()V" } : Jvm.MethodName) prog_2_method_1_code 1 none 0 := ⟨uw_in (in_2 _ (List.mem_of_getElem? (i := 132) rfl)) rfl, uw_in (in_1 _ (List.mem_of_getElem? (i := 11) rfl)) rfl, by decide, by decide, by decide +kernel⟩
theorem miI_X0_init : Cond.instanceMethod ({ cls := "CribbageRoom$CribSum", name := "<init>", desc := "()V" } : Jvm.MethodName) ∈ UW := uw_in (in_2 _ (List.mem_of_getElem? (i := 131) rfl)) rfl
theorem mdI_X1_init : MD ({ cls := "CribbageRoom$Ending", name := "<init>", desc := "()V" } : Jvm.MethodName) prog_3_method_1_code 2 none 0 := ⟨uw_in (in_2 _ (List.mem_of_getElem? (i := 165) rfl)) rfl, uw_in (in_1 _ (List.mem_of_getElem? (i := 12) rfl)) rfl, by decide, by decide, by decide +kernel⟩
theorem miI_X1_init : Cond.instanceMethod ({ cls := "CribbageRoom$Ending", name := "<init>", desc := "()V" } : Jvm.MethodName) ∈ UW := uw_in (in_2 _ (List.mem_of_getElem? (i := 164) rfl)) rfl
theorem mdI_X2_init : MD ({ cls := "CribbageRoom$Four", name := "<init>", desc := "()V" } : Jvm.MethodName) prog_4_method_1_code 1 none 0 := ⟨uw_in (in_2 _ (List.mem_of_getElem? (i := 75) rfl)) rfl, uw_in (in_1 _ (List.mem_of_getElem? (i := 9) rfl)) rfl, by decide, by decide, by decide +kernel⟩
theorem miI_X2_init : Cond.instanceMethod ({ cls := "CribbageRoom$Four", name := "<init>", desc := "()V" } : Jvm.MethodName) ∈ UW := uw_in (in_2 _ (List.mem_of_getElem? (i := 74) rfl)) rfl
theorem mdI_X3_init : MD ({ cls := "CribbageRoom$Fours", name := "<init>", desc := "()V" } : Jvm.MethodName) prog_5_method_1_code 1 none 0 := ⟨uw_in (in_2 _ (List.mem_of_getElem? (i := 112) rfl)) rfl, uw_in (in_1 _ (List.mem_of_getElem? (i := 10) rfl)) rfl, by decide, by decide, by decide +kernel⟩
theorem miI_X3_init : Cond.instanceMethod ({ cls := "CribbageRoom$Fours", name := "<init>", desc := "()V" } : Jvm.MethodName) ∈ UW := uw_in (in_2 _ (List.mem_of_getElem? (i := 111) rfl)) rfl
theorem mdI_X4_init : MD ({ cls := "CribbageRoom$History", name := "<init>", desc := "()V" } : Jvm.MethodName) prog_6_method_1_code 2 none 0 := ⟨uw_in (in_1 _ (List.mem_of_getElem? (i := 149) rfl)) rfl, uw_in (in_1 _ (List.mem_of_getElem? (i := 4) rfl)) rfl, by decide, by decide, by decide +kernel⟩
theorem miI_X4_init : Cond.instanceMethod ({ cls := "CribbageRoom$History", name := "<init>", desc := "()V" } : Jvm.MethodName) ∈ UW := uw_in (in_1 _ (List.mem_of_getElem? (i := 148) rfl)) rfl
theorem mdI_X5_init : MD ({ cls := "CribbageRoom$Reader", name := "<init>", desc := "()V" } : Jvm.MethodName) prog_7_method_1_code 1 none 0 := ⟨uw_in (in_1 _ (List.mem_of_getElem? (i := 174) rfl)) rfl, uw_in (in_1 _ (List.mem_of_getElem? (i := 5) rfl)) rfl, by decide, by decide, by decide +kernel⟩
theorem miI_X5_init : Cond.instanceMethod ({ cls := "CribbageRoom$Reader", name := "<init>", desc := "()V" } : Jvm.MethodName) ∈ UW := uw_in (in_1 _ (List.mem_of_getElem? (i := 173) rfl)) rfl
theorem mdI_X6_init : MD ({ cls := "CribbageRoom$State", name := "<init>", desc := "()V" } : Jvm.MethodName) prog_8_method_1_code 1 none 0 := ⟨uw_in (in_1 _ (List.mem_of_getElem? (i := 35) rfl)) rfl, uw_in (in_1 _ (List.mem_of_getElem? (i := 2) rfl)) rfl, by decide, by decide, by decide +kernel⟩
theorem miI_X6_init : Cond.instanceMethod ({ cls := "CribbageRoom$State", name := "<init>", desc := "()V" } : Jvm.MethodName) ∈ UW := uw_in (in_1 _ (List.mem_of_getElem? (i := 34) rfl)) rfl
theorem mdI_X7_init : MD ({ cls := "CribbageRoom$Sums", name := "<init>", desc := "()V" } : Jvm.MethodName) prog_9_method_1_code 1 none 0 := ⟨uw_in (in_2 _ (List.mem_of_getElem? (i := 4) rfl)) rfl, uw_in (in_1 _ (List.mem_of_getElem? (i := 7) rfl)) rfl, by decide, by decide, by decide +kernel⟩
theorem miI_X7_init : Cond.instanceMethod ({ cls := "CribbageRoom$Sums", name := "<init>", desc := "()V" } : Jvm.MethodName) ∈ UW := uw_in (in_2 _ (List.mem_of_getElem? (i := 3) rfl)) rfl
theorem mdI_X8_init : MD ({ cls := "CribbageRoom$Table", name := "<init>", desc := "()V" } : Jvm.MethodName) prog_10_method_1_code 1 none 0 := ⟨uw_in (in_1 _ (List.mem_of_getElem? (i := 41) rfl)) rfl, uw_in (in_1 _ (List.mem_of_getElem? (i := 3) rfl)) rfl, by decide, by decide, by decide +kernel⟩
theorem miI_X8_init : Cond.instanceMethod ({ cls := "CribbageRoom$Table", name := "<init>", desc := "()V" } : Jvm.MethodName) ∈ UW := uw_in (in_1 _ (List.mem_of_getElem? (i := 40) rfl)) rfl
theorem mdI_X9_init_0 : MD ({ cls := "CribbageRoom$Text", name := "<init>", desc := "()V" } : Jvm.MethodName) prog_11_method_1_code 1 none 0 := ⟨uw_in (in_1 _ (List.mem_of_getElem? (i := 180) rfl)) rfl, uw_in (in_1 _ (List.mem_of_getElem? (i := 6) rfl)) rfl, by decide, by decide, by decide +kernel⟩
theorem miI_X9_init_0 : Cond.instanceMethod ({ cls := "CribbageRoom$Text", name := "<init>", desc := "()V" } : Jvm.MethodName) ∈ UW := uw_in (in_1 _ (List.mem_of_getElem? (i := 179) rfl)) rfl
theorem mdI_X10_init : MD ({ cls := "CribbageRoom$Worth", name := "<init>", desc := "()V" } : Jvm.MethodName) prog_12_method_1_code 1 none 0 := ⟨uw_in (in_2 _ (List.mem_of_getElem? (i := 32) rfl)) rfl, uw_in (in_1 _ (List.mem_of_getElem? (i := 8) rfl)) rfl, by decide, by decide, by decide +kernel⟩
theorem miI_X10_init : Cond.instanceMethod ({ cls := "CribbageRoom$Worth", name := "<init>", desc := "()V" } : Jvm.MethodName) ∈ UW := uw_in (in_2 _ (List.mem_of_getElem? (i := 31) rfl)) rfl
theorem ins_0 : Cond.instantiable "CribbageRoom$CribSum" (nf 0) ∈ UW := uw_in (in_2 _ (List.mem_of_getElem? (i := 129) rfl)) rfl
theorem ini_0 : Cond.initialized "CribbageRoom$CribSum" ∈ UW := uw_in (in_1 _ (List.mem_of_getElem? (i := 11) rfl)) rfl
theorem dvX0 : ∀ k, k < nf 0 → defaultValue (tyX0 k) = match fk 0 k with | 0 => .int 0 | 1 => .long 0 | _ + 2 => .null := fun k hk => by
  match k, hk with
  | 0, _ => rfl
  | 1, _ => rfl
  | 2, _ => rfl
  | 3, _ => rfl
  | 4, _ => rfl
  | 5, _ => rfl
  | 6, _ => rfl
  | 7, _ => rfl
  | n + 8, h => exact absurd h (by rw [show nf 0 = 8 from rfl]; omega)
theorem ins_1 : Cond.instantiable "CribbageRoom$Ending" (nf 1) ∈ UW := uw_in (in_2 _ (List.mem_of_getElem? (i := 162) rfl)) rfl
theorem ini_1 : Cond.initialized "CribbageRoom$Ending" ∈ UW := uw_in (in_1 _ (List.mem_of_getElem? (i := 12) rfl)) rfl
theorem dvX1 : ∀ k, k < nf 1 → defaultValue (tyX1 k) = match fk 1 k with | 0 => .int 0 | 1 => .long 0 | _ + 2 => .null := fun k hk => by
  match k, hk with
  | 0, _ => rfl
  | 1, _ => rfl
  | n + 2, h => exact absurd h (by rw [show nf 1 = 2 from rfl]; omega)
theorem ins_2 : Cond.instantiable "CribbageRoom$Four" (nf 2) ∈ UW := uw_in (in_2 _ (List.mem_of_getElem? (i := 72) rfl)) rfl
theorem ini_2 : Cond.initialized "CribbageRoom$Four" ∈ UW := uw_in (in_1 _ (List.mem_of_getElem? (i := 9) rfl)) rfl
theorem dvX2 : ∀ k, k < nf 2 → defaultValue (tyX2 k) = match fk 2 k with | 0 => .int 0 | 1 => .long 0 | _ + 2 => .null := fun k hk => by
  match k, hk with
  | 0, _ => rfl
  | 1, _ => rfl
  | 2, _ => rfl
  | 3, _ => rfl
  | 4, _ => rfl
  | 5, _ => rfl
  | 6, _ => rfl
  | 7, _ => rfl
  | 8, _ => rfl
  | 9, _ => rfl
  | n + 10, h => exact absurd h (by rw [show nf 2 = 10 from rfl]; omega)
theorem ins_3 : Cond.instantiable "CribbageRoom$Fours" (nf 3) ∈ UW := uw_in (in_2 _ (List.mem_of_getElem? (i := 109) rfl)) rfl
theorem ini_3 : Cond.initialized "CribbageRoom$Fours" ∈ UW := uw_in (in_1 _ (List.mem_of_getElem? (i := 10) rfl)) rfl
theorem dvX3 : ∀ k, k < nf 3 → defaultValue (tyX3 k) = match fk 3 k with | 0 => .int 0 | 1 => .long 0 | _ + 2 => .null := fun k hk => by
  match k, hk with
  | 0, _ => rfl
  | 1, _ => rfl
  | 2, _ => rfl
  | 3, _ => rfl
  | n + 4, h => exact absurd h (by rw [show nf 3 = 4 from rfl]; omega)
theorem ins_4 : Cond.instantiable "CribbageRoom$History" (nf 4) ∈ UW := uw_in (in_1 _ (List.mem_of_getElem? (i := 146) rfl)) rfl
theorem ini_4 : Cond.initialized "CribbageRoom$History" ∈ UW := uw_in (in_1 _ (List.mem_of_getElem? (i := 4) rfl)) rfl
theorem dvX4 : ∀ k, k < nf 4 → defaultValue (tyX4 k) = match fk 4 k with | 0 => .int 0 | 1 => .long 0 | _ + 2 => .null := fun k hk => by
  match k, hk with
  | 0, _ => rfl
  | 1, _ => rfl
  | 2, _ => rfl
  | 3, _ => rfl
  | n + 4, h => exact absurd h (by rw [show nf 4 = 4 from rfl]; omega)
theorem ins_5 : Cond.instantiable "CribbageRoom$Reader" (nf 5) ∈ UW := uw_in (in_1 _ (List.mem_of_getElem? (i := 171) rfl)) rfl
theorem ini_5 : Cond.initialized "CribbageRoom$Reader" ∈ UW := uw_in (in_1 _ (List.mem_of_getElem? (i := 5) rfl)) rfl
theorem dvX5 : ∀ k, k < nf 5 → defaultValue (tyX5 k) = match fk 5 k with | 0 => .int 0 | 1 => .long 0 | _ + 2 => .null := fun k hk => by
  match k, hk with
  | 0, _ => rfl
  | 1, _ => rfl
  | 2, _ => rfl
  | 3, _ => rfl
  | 4, _ => rfl
  | 5, _ => rfl
  | 6, _ => rfl
  | 7, _ => rfl
  | 8, _ => rfl
  | 9, _ => rfl
  | n + 10, h => exact absurd h (by rw [show nf 5 = 10 from rfl]; omega)
theorem ins_6 : Cond.instantiable "CribbageRoom$State" (nf 6) ∈ UW := uw_in (in_1 _ (List.mem_of_getElem? (i := 32) rfl)) rfl
theorem ini_6 : Cond.initialized "CribbageRoom$State" ∈ UW := uw_in (in_1 _ (List.mem_of_getElem? (i := 2) rfl)) rfl
theorem dvX6 : ∀ k, k < nf 6 → defaultValue (tyX6 k) = match fk 6 k with | 0 => .int 0 | 1 => .long 0 | _ + 2 => .null := fun k hk => by
  match k, hk with
  | 0, _ => rfl
  | 1, _ => rfl
  | 2, _ => rfl
  | 3, _ => rfl
  | 4, _ => rfl
  | 5, _ => rfl
  | 6, _ => rfl
  | 7, _ => rfl
  | 8, _ => rfl
  | 9, _ => rfl
  | n + 10, h => exact absurd h (by rw [show nf 6 = 10 from rfl]; omega)
theorem ins_7 : Cond.instantiable "CribbageRoom$Sums" (nf 7) ∈ UW := uw_in (in_2 _ (List.mem_of_getElem? (i := 1) rfl)) rfl
theorem ini_7 : Cond.initialized "CribbageRoom$Sums" ∈ UW := uw_in (in_1 _ (List.mem_of_getElem? (i := 7) rfl)) rfl
theorem dvX7 : ∀ k, k < nf 7 → defaultValue (tyX7 k) = match fk 7 k with | 0 => .int 0 | 1 => .long 0 | _ + 2 => .null := fun k hk => by
  match k, hk with
  | 0, _ => rfl
  | 1, _ => rfl
  | 2, _ => rfl
  | 3, _ => rfl
  | 4, _ => rfl
  | 5, _ => rfl
  | n + 6, h => exact absurd h (by rw [show nf 7 = 6 from rfl]; omega)
theorem ins_8 : Cond.instantiable "CribbageRoom$Table" (nf 8) ∈ UW := uw_in (in_1 _ (List.mem_of_getElem? (i := 38) rfl)) rfl
theorem ini_8 : Cond.initialized "CribbageRoom$Table" ∈ UW := uw_in (in_1 _ (List.mem_of_getElem? (i := 3) rfl)) rfl
theorem dvX8 : ∀ k, k < nf 8 → defaultValue (tyX8 k) = match fk 8 k with | 0 => .int 0 | 1 => .long 0 | _ + 2 => .null := fun k hk => by
  match k, hk with
  | 0, _ => rfl
  | 1, _ => rfl
  | 2, _ => rfl
  | 3, _ => rfl
  | 4, _ => rfl
  | 5, _ => rfl
  | 6, _ => rfl
  | 7, _ => rfl
  | 8, _ => rfl
  | 9, _ => rfl
  | 10, _ => rfl
  | 11, _ => rfl
  | 12, _ => rfl
  | n + 13, h => exact absurd h (by rw [show nf 8 = 13 from rfl]; omega)
theorem ins_9 : Cond.instantiable "CribbageRoom$Text" (nf 9) ∈ UW := uw_in (in_1 _ (List.mem_of_getElem? (i := 177) rfl)) rfl
theorem ini_9 : Cond.initialized "CribbageRoom$Text" ∈ UW := uw_in (in_1 _ (List.mem_of_getElem? (i := 6) rfl)) rfl
theorem dvX9 : ∀ k, k < nf 9 → defaultValue (tyX9 k) = match fk 9 k with | 0 => .int 0 | 1 => .long 0 | _ + 2 => .null := fun k hk => by
  match k, hk with
  | 0, _ => rfl
  | 1, _ => rfl
  | 2, _ => rfl
  | 3, _ => rfl
  | 4, _ => rfl
  | n + 5, h => exact absurd h (by rw [show nf 9 = 5 from rfl]; omega)
theorem ins_10 : Cond.instantiable "CribbageRoom$Worth" (nf 10) ∈ UW := uw_in (in_2 _ (List.mem_of_getElem? (i := 29) rfl)) rfl
theorem ini_10 : Cond.initialized "CribbageRoom$Worth" ∈ UW := uw_in (in_1 _ (List.mem_of_getElem? (i := 8) rfl)) rfl
theorem dvX10 : ∀ k, k < nf 10 → defaultValue (tyX10 k) = match fk 10 k with | 0 => .int 0 | 1 => .long 0 | _ + 2 => .null := fun k hk => by
  match k, hk with
  | 0, _ => rfl
  | 1, _ => rfl
  | 2, _ => rfl
  | 3, _ => rfl
  | 4, _ => rfl
  | 5, _ => rfl
  | 6, _ => rfl
  | 7, _ => rfl
  | 8, _ => rfl
  | n + 9, h => exact absurd h (by rw [show nf 10 = 9 from rfl]; omega)
theorem ins_11 : Cond.instantiable "CribbageRoom" (nf 11) ∈ UW := uw_in (in_1 _ (List.mem_of_getElem? (i := 24) rfl)) rfl
theorem ini_11 : Cond.initialized "CribbageRoom" ∈ UW := uw_in (in_1 _ (List.mem_of_getElem? (i := 1) rfl)) rfl
theorem dvX11 : ∀ k, k < nf 11 → defaultValue (tyX11 k) = match fk 11 k with | 0 => .int 0 | 1 => .long 0 | _ + 2 => .null := fun k hk => by
  match k, hk with
  | 0, _ => rfl
  | 1, _ => rfl
  | 2, _ => rfl
  | 3, _ => rfl
  | 4, _ => rfl
  | 5, _ => rfl
  | 6, _ => rfl
  | 7, _ => rfl
  | 8, _ => rfl
  | 9, _ => rfl
  | 10, _ => rfl
  | 11, _ => rfl
  | 12, _ => rfl
  | 13, _ => rfl
  | 14, _ => rfl
  | 15, _ => rfl
  | 16, _ => rfl
  | 17, _ => rfl
  | 18, _ => rfl
  | n + 19, h => exact absurd h (by rw [show nf 11 = 19 from rfl]; omega)
theorem ins_12 : Cond.instantiable "CribbageRoomModel" (nf 12) ∈ UW := uw_in (in_6 _ (List.mem_of_getElem? (i := 42) rfl)) rfl
theorem ini_12 : Cond.initialized "CribbageRoomModel" ∈ UW := uw_in (in_1 _ (List.mem_of_getElem? (i := 13) rfl)) rfl
theorem dvX12 : ∀ k, k < nf 12 → defaultValue (tyX12 k) = match fk 12 k with | 0 => .int 0 | 1 => .long 0 | _ + 2 => .null := fun k hk => by
  match k, hk with
  | 0, _ => rfl
  | 1, _ => rfl
  | 2, _ => rfl
  | 3, _ => rfl
  | 4, _ => rfl
  | 5, _ => rfl
  | 6, _ => rfl
  | 7, _ => rfl
  | 8, _ => rfl
  | 9, _ => rfl
  | 10, _ => rfl
  | 11, _ => rfl
  | 12, _ => rfl
  | 13, _ => rfl
  | 14, _ => rfl
  | 15, _ => rfl
  | 16, _ => rfl
  | 17, _ => rfl
  | 18, _ => rfl
  | 19, _ => rfl
  | 20, _ => rfl
  | 21, _ => rfl
  | 22, _ => rfl
  | 23, _ => rfl
  | 24, _ => rfl
  | 25, _ => rfl
  | 26, _ => rfl
  | 27, _ => rfl
  | 28, _ => rfl
  | 29, _ => rfl
  | 30, _ => rfl
  | 31, _ => rfl
  | 32, _ => rfl
  | 33, _ => rfl
  | 34, _ => rfl
  | 35, _ => rfl
  | 36, _ => rfl
  | 37, _ => rfl
  | 38, _ => rfl
  | 39, _ => rfl
  | 40, _ => rfl
  | 41, _ => rfl
  | 42, _ => rfl
  | 43, _ => rfl
  | 44, _ => rfl
  | 45, _ => rfl
  | 46, _ => rfl
  | 47, _ => rfl
  | 48, _ => rfl
  | 49, _ => rfl
  | 50, _ => rfl
  | 51, _ => rfl
  | 52, _ => rfl
  | 53, _ => rfl
  | 54, _ => rfl
  | 55, _ => rfl
  | 56, _ => rfl
  | 57, _ => rfl
  | 58, _ => rfl
  | 59, _ => rfl
  | 60, _ => rfl
  | 61, _ => rfl
  | 62, _ => rfl
  | 63, _ => rfl
  | 64, _ => rfl
  | 65, _ => rfl
  | 66, _ => rfl
  | 67, _ => rfl
  | n + 68, h => exact absurd h (by rw [show nf 12 = 68 from rfl]; omega)
theorem ar_int : Cond.arrayClass .int ∈ UW := uw_in (in_1 _ (List.mem_of_getElem? (i := 99) rfl)) rfl
theorem ar_long : Cond.arrayClass .long ∈ UW := uw_in (in_1 _ (List.mem_of_getElem? (i := 98) rfl)) rfl
theorem ar_boolean : Cond.arrayClass .boolean ∈ UW := uw_in (in_7 _ (List.mem_of_getElem? (i := 35) rfl)) rfl
theorem ao_Table : Cond.arrayOver (.object "CribbageRoom$Table") ∈ UW := uw_in (in_1 _ (List.mem_of_getElem? (i := 152) rfl)) rfl
theorem ao_State : Cond.arrayOver (.object "CribbageRoom$State") ∈ UW := uw_in (in_1 _ (List.mem_of_getElem? (i := 144) rfl)) rfl
theorem ao_Text : Cond.arrayOver (.object "CribbageRoom$Text") ∈ UW := uw_in (in_1 _ (List.mem_of_getElem? (i := 101) rfl)) rfl
theorem ao_I : Cond.arrayOver (.array .int) ∈ UW := uw_in (in_2 _ (List.mem_of_getElem? (i := 37) rfl)) rfl
theorem ao_J : Cond.arrayOver (.array .long) ∈ UW := uw_in (in_2 _ (List.mem_of_getElem? (i := 135) rfl)) rfl
theorem ob_in : Cond.instanceMethod Lib.objectInit ∈ UW := uw_in (in_1 _ (List.mem_of_getElem? (i := 29) rfl)) rfl
theorem ob_cd : Cond.code Lib.objectInit ⟨#[0xb1]⟩ 1 none ∈ UW := uw_in (in_1 _ (List.mem_of_getElem? (i := 30) rfl)) rfl
theorem mn_inint (cA : ClassId) (k : Nat) : Jvm.Free.Multi.innerC cA k (defaultValue .int) = vp_cell cA (k, .inl (fun _ => 0)) := by
  show ({ cls := cA, slots := Array.replicate k (.int 0), vm := .none } : Cell) = _
  rw [arrV_new]; rfl
theorem mn_inlong (cA : ClassId) (k : Nat) : Jvm.Free.Multi.innerC cA k (defaultValue .long) = vp_cell cA (k, .inr (.inl (fun _ => 0))) := by
  show ({ cls := cA, slots := Array.replicate k (.long 0), vm := .none } : Cell) = _
  rw [arrV_new]; rfl
theorem mn_ceint {w : WX} {M U : Mem} {t S p o k : Nat} (h : p + 1 + o < S) (hU : mI U (p + 1 + o) = fun _ => 0) : cEk w (put M t S U) (t + p + 1 + o) 20 k = .inl (wAy w 0, k, .inl (fun _ => 0)) := by
  rw [show t + p + 1 + o = t + (p + 1 + o) by omega]
  show Sum.inl (wAy w 0, k, Sum.inl (mI (put M t S U) (t + (p + 1 + o)))) = _
  rw [(put_at h).1, hU]
theorem mn_celong {w : WX} {M U : Mem} {t S p o k : Nat} (h : p + 1 + o < S) (hU : mJ U (p + 1 + o) = fun _ => 0) : cEk w (put M t S U) (t + p + 1 + o) 21 k = .inl (wAy w 1, k, .inr (.inl (fun _ => 0))) := by
  rw [show t + p + 1 + o = t + (p + 1 + o) by omega]
  show Sum.inl (wAy w 1, k, Sum.inr (Sum.inl (mJ (put M t S U) (t + (p + 1 + o))))) = _
  rw [(put_at h).2.1, hU]
theorem mn_nr {M U : Mem} {t S p o : Nat} (h : p + o < S) (hU : mR U (p + o) = fun _ => none) : ∀ j, mR (put M t S U) (t + p + o) j = none := fun j => by
  rw [show t + p + o = t + (p + o) by omega, (put_at h).2.2.1, hU]
section RU
variable {τ : Type} {nL : Nat} {w : WX} {x : MX} {Q : τ → State → Prop} {pc pc' : Nat} {L : List (Nat × Value)} {rest : List Value} {M : Mem} {f : Option τ}
theorem r_pcA {st : List Value} (h : pc = pc') (k : C x w Q nL pc' L st M f) : C x w Q nL pc L st M f := by subst h; exact k
theorem z_val {u v : Int32} (h : u = v) (k : C x w Q nL pc L (.int v :: rest) M f) : C x w Q nL pc L (.int u :: rest) M f := by subst h; exact k
end RU
