/-! ===== the text of words, char by char ===== -/
theorem mx_c : Cond.code Lib.Math.max.name Lib.Math.max.code 2 (some .int) ∈ UW := uw_in (in_3 _ (List.mem_of_getElem? (i := 79) rfl)) rfl
theorem mx_s : Cond.static Lib.Math.max.name ∈ UW := uw_in (in_3 _ (List.mem_of_getElem? (i := 78) rfl)) rfl
theorem mn_c : Cond.code Lib.Math.min.name Lib.Math.min.code 2 (some .int) ∈ UW := uw_in (in_3 _ (List.mem_of_getElem? (i := 22) rfl)) rfl
theorem mn_s : Cond.static Lib.Math.min.name ∈ UW := uw_in (in_3 _ (List.mem_of_getElem? (i := 21) rfl)) rfl
theorem ma_i : Cond.initialized "java/lang/Math" ∈ UW := uw_in (in_1 _ (List.mem_of_getElem? (i := 14) rfl)) rfl
section RS
variable {τ : Type} {own : String} {nL fr lo : Nat} {ret : Option FieldType} {w : WX} {x : MX} {Q : τ → State → Prop} {pc : Nat} {L : List (Nat × Value)} {rest : List Value} {M : Mem} {f : Option τ}
theorem r_mmax {idx : Nat} {x1 y1 : Int32} {pc' : Nat} (hx : Ok own nL ret fr lo w x) (hdg : decode (xc x).code pc = .ok (.invokestatic idx, 3)) (hlk : Cond.methodLink own idx ({ cls := "java/lang/Math", name := "max", desc := "(II)I" } : Jvm.MethodName) ∈ UW) (hR : 1 ≤ fr ∧ 30 ≤ lo) (hcat : (rest.map fun v => v.category).sum ≤ 8) (hp : pc + 3 = pc') (kk : C x w Q nL pc' L (.int (imx x1 y1) :: rest) M f) : C x w Q nL pc L (.int y1 :: .int x1 :: rest) M f := by
  subst hp
  intro t ht H locs ls hH hS hl
  have hU := hx.2.2.1
  exact va_mmax hx.1 rfl (hx.2.2.2.2.2.2.2.trans hl.1.symm) hx.2.1 (hU _ hlk) (hU _ mx_s) (hU _ ma_i) (hU _ mx_c) (by rw [hx.2.2.2.2.2.2.1.1]; exact hR.1) (by rw [hx.2.2.2.2.2.2.1.2.1]; omega) hx.2.2.2.2.2.2.1.2.2.1 hx.2.2.2.2.2.2.1.2.2.2 hdg (kk t ht H locs ls hH hS hl)
theorem r_mmin {idx : Nat} {x1 y1 : Int32} {pc' : Nat} (hx : Ok own nL ret fr lo w x) (hdg : decode (xc x).code pc = .ok (.invokestatic idx, 3)) (hlk : Cond.methodLink own idx ({ cls := "java/lang/Math", name := "min", desc := "(II)I" } : Jvm.MethodName) ∈ UW) (hR : 1 ≤ fr ∧ 30 ≤ lo) (hcat : (rest.map fun v => v.category).sum ≤ 8) (hp : pc + 3 = pc') (kk : C x w Q nL pc' L (.int (imn x1 y1) :: rest) M f) : C x w Q nL pc L (.int y1 :: .int x1 :: rest) M f := by
  subst hp
  intro t ht H locs ls hH hS hl
  have hU := hx.2.2.1
  exact va_mmin hx.1 rfl (hx.2.2.2.2.2.2.2.trans hl.1.symm) hx.2.1 (hU _ hlk) (hU _ mn_s) (hU _ ma_i) (hU _ mn_c) (by rw [hx.2.2.2.2.2.2.1.1]; exact hR.1) (by rw [hx.2.2.2.2.2.2.1.2.1]; omega) hx.2.2.2.2.2.2.1.2.2.1 hx.2.2.2.2.2.2.1.2.2.2 hdg (kk t ht H locs ls hH hS hl)
theorem r_ldcS {pc' : Nat} (hx : Ok "CribbageRoom$Reader" nL ret fr lo w x) (hdg : decode (xc x).code pc = .ok (.ldc 130, 2)) (hp : pc + 2 = pc') (kk : C x w Q nL pc' L (.ref (wsa w 5) :: rest) M f) : C x w Q nL pc L rest M f := by
  subst hp
  exact fun t ht H locs ls hH hS hl => va_ldcS hx.1 rfl hx.2.1 hx.2.2.2.1.2.2.2.2.1 hdg (kk t ht H locs ls hH hS hl)
theorem q_sget {idx q : Nat} {o n d : String} {v : Value} (hx : Ok own nL ret fr lo w x) (hdg : decode (xc x).code pc = .ok (.getfield idx, 3)) (ho : va_OF o n d v q (A0 w) (xs_ x) (xs_ x).heap) (hlk : Cond.fieldLink own idx o n d ∈ UW) (kk : C x w Q nL (pc + 3) L (v :: rest) M f) : C x w Q nL pc L (.ref q :: rest) M f := fun t ht H locs ls hH hS hl => vk_getf hx.1 rfl ho hS hx.2.1 (hx.2.2.1 _ hlk) (fun _ h => h) hdg (kk t ht H locs ls hH hS hl)
theorem q_gets {idx : Nat} {Cn n d : String} {v : Value} (hx : Ok own nL ret fr lo w x) (hdg : decode (xc x).code pc = .ok (.getstatic idx, 3)) (hZ : va_Z Cn n d v (A0 w) (xs_ x) (xs_ x).heap) (hlk : Cond.fieldLink own idx Cn n d ∈ UW) (kk : C x w Q nL (pc + 3) L (v :: rest) M f) : C x w Q nL pc L rest M f := fun t ht H locs ls hH hS hl => va_gets hx.1 rfl hZ hS hx.2.1 (hx.2.2.1 _ hlk) (fun _ h => h) hdg (kk t ht H locs ls hH hS hl)
theorem q_blen {q N : Nat} {g : Nat → Value} {v : Int32} (hx : Ok own nL ret fr lo w x) (hdg : decode (xc x).code pc = .ok (.arraylength, 1)) (hT : va_T .byte q N g (A0 w) (xs_ x) (xs_ x).heap) (hv : Int32.ofNat N = v) (kk : C x w Q nL (pc + 1) L (.int v :: rest) M f) : C x w Q nL pc L (.ref q :: rest) M f := fun t ht H locs ls hH hS hl => va_tlen hx.1 rfl hT hS hv hdg (kk t ht H locs ls hH hS hl)
theorem q_bald {q N : Nat} {g : Nat → Value} {i : Int32} {v : Value} (hx : Ok own nL ret fr lo w x) (hdg : decode (xc x).code pc = .ok (.baload, 1)) (hT : va_T .byte q N g (A0 w) (xs_ x) (xs_ x).heap) (hi : inb i N = true) (hv : g (ix i) = v) (kk : C x w Q nL (pc + 1) L (v :: rest) M f) : C x w Q nL pc L (.int i :: .ref q :: rest) M f := fun t ht H locs ls hH hS hl => va_tb hx.1 rfl hT hS (inb_in hi) hv hdg (kk t ht H locs ls hH hS hl)
theorem q_i2c {x1 v : Int32} (hx : Ok own nL ret fr lo w x) (hdg : decode (xc x).code pc = .ok (.i2c, 1)) (hv : (x1.toUInt32 % 65536).toInt32 = v) (kk : C x w Q nL (pc + 1) L (.int v :: rest) M f) : C x w Q nL pc L (.int x1 :: rest) M f := fun t ht H locs ls hH hS hl => lv_i2c hx.1 rfl hdg hv (kk t ht H locs ls hH hS hl)
theorem q_yret {v : Int32} {t0 : τ} {ty : FieldType} {ev : τ → Option Value} {em : τ → Mem} (hx : Ok own nL (some ty) fr lo w x) (hdg : decode (xc x).code pc = .ok (.ireturn, 1)) (hn : narrow ty (.int v) = .int v) (he : ev t0 = some (.int v)) (hm : em t0 = M) (hz : xk x = 0 ∧ xn x = 0) : C x w (Qn x w ev em) nL pc L [.int v] M (some t0) := by
  intro t ht H locs ls hH hS hl
  cases ht
  rw [hz.1, hz.2]
  exact W.zret hx.1 rfl hx.2.2.2.2.1 hn (fun t ht hW => ⟨by rw [he], by rw [ht, hm]; exact hH, hS.F ht⟩) hS.2.2 hdg hx.2.2.2.2.2.1
theorem q_if_eqF {x1 : Int32} {off : Int} (tgt : Nat) (hx : Ok own nL ret fr lo w x) (hdg : decode (xc x).code pc = .ok (.ifCond .eq off, 3)) (ht : (pc : Int) + off = (tgt : Int)) (h : ¬ x1 = 0) (k : C x w Q nL (pc + 3) L rest M f) : C x w Q nL pc L (.int x1 :: rest) M f := by
  have e := r_if_eq (tgt := tgt) (f := none) hx hdg ht (fun q => absurd q h) rfl (fun _ => k)
  rwa [if_neg h] at e
theorem q_if_neF {x1 : Int32} {off : Int} (tgt : Nat) (hx : Ok own nL ret fr lo w x) (hdg : decode (xc x).code pc = .ok (.ifCond .ne off, 3)) (ht : (pc : Int) + off = (tgt : Int)) (h : x1 = 0) (k : C x w Q nL (pc + 3) L rest M f) : C x w Q nL pc L (.int x1 :: rest) M f := by
  have e := r_if_ne (tgt := tgt) (f := none) hx hdg ht (fun q => absurd h q) rfl (fun _ => k)
  rwa [if_neg (fun q => q h)] at e
theorem q_if_ltF {x1 : Int32} {off : Int} (tgt : Nat) (hx : Ok own nL ret fr lo w x) (hdg : decode (xc x).code pc = .ok (.ifCond .lt off, 3)) (ht : (pc : Int) + off = (tgt : Int)) (h : ¬ x1 < 0) (k : C x w Q nL (pc + 3) L rest M f) : C x w Q nL pc L (.int x1 :: rest) M f := by
  have e := r_if_lt (tgt := tgt) (f := none) hx hdg ht (fun q => absurd q h) rfl (fun _ => k)
  rwa [if_neg h] at e
theorem q_icmp_ltT {x1 y1 : Int32} {off : Int} (tgt : Nat) (hx : Ok own nL ret fr lo w x) (hdg : decode (xc x).code pc = .ok (.if_icmp .lt off, 3)) (ht : (pc : Int) + off = (tgt : Int)) (h : x1 < y1) (k : C x w Q nL tgt L rest M f) : C x w Q nL pc L (.int y1 :: .int x1 :: rest) M f := by
  have e := r_icmp_lt (tgt := tgt) (g := none) hx hdg ht (fun _ => k) rfl (fun q => absurd h q)
  rwa [if_pos h] at e
theorem q_recvS {H : Heap} {locs : List Loc} (hx : Ok own nL ret fr lo w x) (hS : va_S (A0 w) (xs_ x).heap H locs) : ∃ cell : Cell, H[wsa w 5]? = some cell ∧ cell.vm.isStatics = false ∧ (xs_ x).vm.findClass "java/lang/String" = some cell.cls := vk_recv (i := 0) hx.2.2.2.1.2.2.2.2.2.1 (by decide) hS
/-- a call on the text -/
theorem q_callT {τ' : Type} {idx n fr' lo' nL' : Nat} {y : MethodName} {cc' : ByteArray} {ret' : Option FieldType} {As st0 : List Value} {ev' : τ' → Option Value} {em' : τ' → Mem} {g : Option τ'} {K : τ' → Option τ} (hx : Ok own nL ret fr lo w x) (hdg : decode (xc x).code pc = .ok (.invokevirtual idx, 3)) (hmd : MD y cc' nL' ret' n) (hin : Cond.instanceMethod y ∈ UW) (hse : Cond.selects y.cls y y ∈ UW) (hlk : Cond.methodLink own idx y ∈ UW) (hct : Ct (xl x) w y cc' nL' ret' fr' lo' ev' em' (.ref (wsa w 5) :: As) M g) (hcl : y.cls = "java/lang/String") (hR : fr' + 1 ≤ fr ∧ 8 + (nL' + 11) + lo' ≤ lo) (hst : st0 = As.reverse ++ .ref (wsa w 5) :: rest) (hn : As.length = n) (hcat : (rest.map fun v => v.category).sum ≤ 8) (stf : τ' → List Value) (mf : τ' → Mem) (hsf : ∀ t', (ev' t').toList ++ rest = stf t' ∧ em' t' = mf t') (kk : ∀ t', g = some t' → C x w Q nL (pc + 3) L (stf t') (mf t') (K t')) : C x w Q nL pc L st0 M (g.bind K) := by
  refine q_run (avs := .ref (wsa w 5) :: As) hx stf mf hsf (fun t' hg H locs ls hH hS hl => ?_) kk
  exact va_runV (nL := nL) ⟨hx.1, rfl, hx.2.2.2.2.2.2.2, hx.2.1, hx.2.2.1⟩ (hct t' hg) ⟨mkB hx hmd hlk hR, hx.2.2.1 _ hin, hx.2.2.1 _ hse⟩ ⟨PcW.blind w _ M, by rw [hcl]; exact q_recvS hx hS, preU hx hH hS⟩ rfl hn hl.1 hst (lv_room hcat) hdg (hfz hx)
end RS
def tbJ_coder : List (Nat × Instr × Nat) := [(0, .getstatic 38, 3), (3, .ifCond .eq 10, 3), (6, .aload_n 0, 1), (7, .getfield 15, 3), (10, .goto 4, 3), (13, .iconst 1, 1), (14, .ireturn, 1)]
theorem dJ_coder : ∀ q ∈ tbJ_coder, decode prog_19_method_152_code q.1 = .ok q.2 := by decide +kernel
theorem mdJ_coder : MD ({ cls := "java/lang/String", name := "coder", desc := "()B" } : Jvm.MethodName) prog_19_method_152_code 1 (Option.some FieldType.byte) 0 := ⟨uw_in (in_3 _ (List.mem_of_getElem? (i := 206) rfl)) rfl, uw_in (in_1 _ (List.mem_of_getElem? (i := 16) rfl)) rfl, by decide, by decide, by decide +kernel⟩
theorem miJ_coder : Cond.instanceMethod ({ cls := "java/lang/String", name := "coder", desc := "()B" } : Jvm.MethodName) ∈ UW := uw_in (in_3 _ (List.mem_of_getElem? (i := 204) rfl)) rfl
theorem msJ_coder : Cond.selects "java/lang/String" ({ cls := "java/lang/String", name := "coder", desc := "()B" } : Jvm.MethodName) ({ cls := "java/lang/String", name := "coder", desc := "()B" } : Jvm.MethodName) ∈ UW := uw_in (in_3 _ (List.mem_of_getElem? (i := 205) rfl)) rfl
def tbJ_length : List (Nat × Instr × Nat) := [(0, .aload_n 0, 1), (1, .getfield 9, 3), (4, .arraylength, 1), (5, .aload_n 0, 1), (6, .invokevirtual 335, 3), (9, .ishr, 1), (10, .ireturn, 1)]
theorem dJ_length : ∀ q ∈ tbJ_length, decode prog_19_method_54_code q.1 = .ok q.2 := by decide +kernel
theorem mdJ_length : MD ({ cls := "java/lang/String", name := "length", desc := "()I" } : Jvm.MethodName) prog_19_method_54_code 1 (Option.some FieldType.int) 0 := ⟨uw_in (in_3 _ (List.mem_of_getElem? (i := 202) rfl)) rfl, uw_in (in_1 _ (List.mem_of_getElem? (i := 16) rfl)) rfl, by decide, by decide, by decide +kernel⟩
theorem miJ_length : Cond.instanceMethod ({ cls := "java/lang/String", name := "length", desc := "()I" } : Jvm.MethodName) ∈ UW := uw_in (in_3 _ (List.mem_of_getElem? (i := 200) rfl)) rfl
theorem msJ_length : Cond.selects "java/lang/String" ({ cls := "java/lang/String", name := "length", desc := "()I" } : Jvm.MethodName) ({ cls := "java/lang/String", name := "length", desc := "()I" } : Jvm.MethodName) ∈ UW := uw_in (in_3 _ (List.mem_of_getElem? (i := 201) rfl)) rfl
def tbJ_charAt : List (Nat × Instr × Nat) := [(0, .aload_n 0, 1), (1, .invokevirtual 492, 3), (4, .ifCond .eq 12, 3), (7, .aload_n 0, 1), (8, .getfield 9, 3), (11, .iload_n 1, 1), (12, .invokestatic 495, 3), (15, .ireturn, 1), (16, .aload_n 0, 1), (17, .getfield 9, 3), (20, .iload_n 1, 1), (21, .invokestatic 498, 3), (24, .ireturn, 1)]
theorem dJ_charAt : ∀ q ∈ tbJ_charAt, decode prog_19_method_56_code q.1 = .ok q.2 := by decide +kernel
theorem mdJ_charAt : MD ({ cls := "java/lang/String", name := "charAt", desc := "(I)C" } : Jvm.MethodName) prog_19_method_56_code 2 (Option.some FieldType.char) 1 := ⟨uw_in (in_3 _ (List.mem_of_getElem? (i := 212) rfl)) rfl, uw_in (in_1 _ (List.mem_of_getElem? (i := 16) rfl)) rfl, by decide, by decide, by decide +kernel⟩
theorem miJ_charAt : Cond.instanceMethod ({ cls := "java/lang/String", name := "charAt", desc := "(I)C" } : Jvm.MethodName) ∈ UW := uw_in (in_3 _ (List.mem_of_getElem? (i := 210) rfl)) rfl
theorem msJ_charAt : Cond.selects "java/lang/String" ({ cls := "java/lang/String", name := "charAt", desc := "(I)C" } : Jvm.MethodName) ({ cls := "java/lang/String", name := "charAt", desc := "(I)C" } : Jvm.MethodName) ∈ UW := uw_in (in_3 _ (List.mem_of_getElem? (i := 211) rfl)) rfl
def tbJ_isLatin1 : List (Nat × Instr × Nat) := [(0, .getstatic 38, 3), (3, .ifCond .eq 14, 3), (6, .aload_n 0, 1), (7, .getfield 15, 3), (10, .ifCond .ne 7, 3), (13, .iconst 1, 1), (14, .goto 4, 3), (17, .iconst 0, 1), (18, .ireturn, 1)]
theorem dJ_isLatin1 : ∀ q ∈ tbJ_isLatin1, decode prog_19_method_154_code q.1 = .ok q.2 := by decide +kernel
theorem mdJ_isLatin1 : MD ({ cls := "java/lang/String", name := "isLatin1", desc := "()Z" } : Jvm.MethodName) prog_19_method_154_code 1 (Option.some FieldType.boolean) 0 := ⟨uw_in (in_3 _ (List.mem_of_getElem? (i := 216) rfl)) rfl, uw_in (in_1 _ (List.mem_of_getElem? (i := 16) rfl)) rfl, by decide, by decide, by decide +kernel⟩
theorem miJ_isLatin1 : Cond.instanceMethod ({ cls := "java/lang/String", name := "isLatin1", desc := "()Z" } : Jvm.MethodName) ∈ UW := uw_in (in_3 _ (List.mem_of_getElem? (i := 214) rfl)) rfl
theorem msJ_isLatin1 : Cond.selects "java/lang/String" ({ cls := "java/lang/String", name := "isLatin1", desc := "()Z" } : Jvm.MethodName) ({ cls := "java/lang/String", name := "isLatin1", desc := "()Z" } : Jvm.MethodName) ∈ UW := uw_in (in_3 _ (List.mem_of_getElem? (i := 215) rfl)) rfl
def tbJ_latAt : List (Nat × Instr × Nat) := [(0, .iload_n 1, 1), (1, .aload_n 0, 1), (2, .arraylength, 1), (3, .invokestatic 9, 3), (6, .aload_n 0, 1), (7, .iload_n 1, 1), (8, .baload, 1), (9, .sipush 255, 3), (12, .iand, 1), (13, .i2c, 1), (14, .ireturn, 1)]
theorem dJ_latAt : ∀ q ∈ tbJ_latAt, decode prog_20_method_2_code q.1 = .ok q.2 := by decide +kernel
theorem mdJ_latAt : MD ({ cls := "java/lang/StringLatin1", name := "charAt", desc := "([BI)C" } : Jvm.MethodName) prog_20_method_2_code 2 (Option.some FieldType.char) 2 := ⟨uw_in (in_3 _ (List.mem_of_getElem? (i := 219) rfl)) rfl, uw_in (in_1 _ (List.mem_of_getElem? (i := 17) rfl)) rfl, by decide, by decide, by decide +kernel⟩
theorem mstJ_latAt : Cond.static ({ cls := "java/lang/StringLatin1", name := "charAt", desc := "([BI)C" } : Jvm.MethodName) ∈ UW := uw_in (in_3 _ (List.mem_of_getElem? (i := 218) rfl)) rfl
def tbJ_check : List (Nat × Instr × Nat) := [(0, .iload_n 0, 1), (1, .iload_n 1, 1), (2, .getstatic 1053, 3), (5, .invokestatic 1059, 3), (8, .pop, 1), (9, .return_, 1)]
theorem dJ_check : ∀ q ∈ tbJ_check, decode prog_19_method_155_code q.1 = .ok q.2 := by decide +kernel
theorem mdJ_check : MD ({ cls := "java/lang/String", name := "checkIndex", desc := "(II)V" } : Jvm.MethodName) prog_19_method_155_code 2 (Option.none : Option FieldType) 2 := ⟨uw_in (in_3 _ (List.mem_of_getElem? (i := 222) rfl)) rfl, uw_in (in_1 _ (List.mem_of_getElem? (i := 16) rfl)) rfl, by decide, by decide, by decide +kernel⟩
theorem mstJ_check : Cond.static ({ cls := "java/lang/String", name := "checkIndex", desc := "(II)V" } : Jvm.MethodName) ∈ UW := uw_in (in_3 _ (List.mem_of_getElem? (i := 221) rfl)) rfl
def tbJ_pcheck : List (Nat × Instr × Nat) := [(0, .iload_n 0, 1), (1, .ifCond .lt 8, 3), (4, .iload_n 0, 1), (5, .iload_n 1, 1), (6, .if_icmp .lt 10, 3), (9, .aload_n 2, 1), (10, .iload_n 0, 1), (11, .iload_n 1, 1), (12, .invokestatic 95, 3), (15, .athrow, 1), (16, .iload_n 0, 1), (17, .ireturn, 1)]
theorem dJ_pcheck : ∀ q ∈ tbJ_pcheck, decode prog_24_method_11_code q.1 = .ok q.2 := by decide +kernel
theorem mdJ_pcheck : MD ({ cls := "jdk/internal/util/Preconditions", name := "checkIndex", desc := "(IILjava/util/function/BiFunction;)I" } : Jvm.MethodName) prog_24_method_11_code 3 (Option.some FieldType.int) 3 := ⟨uw_in (in_3 _ (List.mem_of_getElem? (i := 227) rfl)) rfl, uw_in (in_1 _ (List.mem_of_getElem? (i := 18) rfl)) rfl, by decide, by decide, by decide +kernel⟩
theorem mstJ_pcheck : Cond.static ({ cls := "jdk/internal/util/Preconditions", name := "checkIndex", desc := "(IILjava/util/function/BiFunction;)I" } : Jvm.MethodName) ∈ UW := uw_in (in_3 _ (List.mem_of_getElem? (i := 226) rfl)) rfl
theorem mlJ_335 : Cond.methodLink "java/lang/String" 335 ({ cls := "java/lang/String", name := "coder", desc := "()B" } : Jvm.MethodName) ∈ UW := uw_in (in_3 _ (List.mem_of_getElem? (i := 203) rfl)) rfl
theorem mlJ_492 : Cond.methodLink "java/lang/String" 492 ({ cls := "java/lang/String", name := "isLatin1", desc := "()Z" } : Jvm.MethodName) ∈ UW := uw_in (in_3 _ (List.mem_of_getElem? (i := 213) rfl)) rfl
theorem mlJ_495 : Cond.methodLink "java/lang/String" 495 ({ cls := "java/lang/StringLatin1", name := "charAt", desc := "([BI)C" } : Jvm.MethodName) ∈ UW := uw_in (in_3 _ (List.mem_of_getElem? (i := 217) rfl)) rfl
theorem mlJ_1059 : Cond.methodLink "java/lang/String" 1059 ({ cls := "jdk/internal/util/Preconditions", name := "checkIndex", desc := "(IILjava/util/function/BiFunction;)I" } : Jvm.MethodName) ∈ UW := uw_in (in_3 _ (List.mem_of_getElem? (i := 225) rfl)) rfl
theorem mlJ_9 : Cond.methodLink "java/lang/StringLatin1" 9 ({ cls := "java/lang/String", name := "checkIndex", desc := "(II)V" } : Jvm.MethodName) ∈ UW := uw_in (in_3 _ (List.mem_of_getElem? (i := 220) rfl)) rfl
theorem lk_String_9 : Cond.fieldLink "java/lang/String" 9 "java/lang/String" "value" "[B" ∈ UW := uw_in (in_9 _ (List.mem_of_getElem? (i := 128) rfl)) rfl
theorem lk_String_15 : Cond.fieldLink "java/lang/String" 15 "java/lang/String" "coder" "B" ∈ UW := uw_in (in_9 _ (List.mem_of_getElem? (i := 129) rfl)) rfl
theorem lk_String_38 : Cond.fieldLink "java/lang/String" 38 "java/lang/String" "COMPACT_STRINGS" "Z" ∈ UW := uw_in (in_3 _ (List.mem_of_getElem? (i := 207) rfl)) rfl
theorem lk_String_1053 : Cond.fieldLink "java/lang/String" 1053 "jdk/internal/util/Preconditions" "SIOOBE_FORMATTER" "Ljava/util/function/BiFunction;" ∈ UW := uw_in (in_3 _ (List.mem_of_getElem? (i := 223) rfl)) rfl
theorem wd_all : ∀ k, k < 144 → (wdB.getD k 0 &&& 255 = wdC k ∧ ((wdC k).toUInt32 % 65536).toInt32 = wdC k ∧ narrow .char (.int (wdC k)) = .int (wdC k)) := by decide +kernel
set_option maxRecDepth 20000 in
theorem cJ_coder (l : Launch) (w : WX) (M : Mem) : Ct l w ({ cls := "java/lang/String", name := "coder", desc := "()B" } : Jvm.MethodName) prog_19_method_152_code 1 (some .byte) 0 0 evI (emC M) [.ref (wsa w 5)] M (some 0) := by
  refine ct_of (by decide) (Nat.le_of_ble_eq_true rfl) (fun x hl hx hb hz => ?_)
  subst hl
  have hd : ∀ i, DAt (xc x).code (tbJ_coder[i]?) := fun i => by rw [hb]; exact dat_of dJ_coder i
  have hs := hx.2.2.2.1.2.2.2.2
  show C x w (Qn x w evI (emC M)) 1 0 [(0, .ref (wsa w 5))] [] M (some 0)
  refine q_gets hx (hd 0) hs.2.2.1 lk_String_38 ?_
  refine q_if_eqF 13 hx (hd 1) (by decide) (by decide) ?_
  refine r_aload_n (pc' := 7) hx (hd 2) rfl 0 rfl rfl ?_
  refine q_sget hx (hd 3) (hs.2.1.1 0 (by decide)).2.1 lk_String_15 ?_
  refine r_goto (tgt := 14) hx (hd 4) (by decide) ?_
  exact q_yret hx (hd 6) rfl rfl rfl hz
set_option maxRecDepth 20000 in
theorem cJ_length (l : Launch) (w : WX) (M : Mem) : Ct l w ({ cls := "java/lang/String", name := "length", desc := "()I" } : Jvm.MethodName) prog_19_method_54_code 1 (some .int) 1 20 evI (emC M) [.ref (wsa w 5)] M (some 144) := by
  refine ct_of (by decide) (Nat.le_of_ble_eq_true rfl) (fun x hl hx hb hz => ?_)
  subst hl
  have hd : ∀ i, DAt (xc x).code (tbJ_length[i]?) := fun i => by rw [hb]; exact dat_of dJ_length i
  have hs := hx.2.2.2.1.2.2.2.2
  show C x w (Qn x w evI (emC M)) 1 0 [(0, .ref (wsa w 5))] [] M (some 144)
  refine r_aload_n (pc' := 1) hx (hd 0) rfl 0 rfl rfl ?_
  refine q_sget hx (hd 1) (hs.2.1.1 0 (by decide)).2.2.1 lk_String_9 ?_
  refine q_blen (v := 144) hx (hd 2) (hs.2.1.1 0 (by decide)).2.2.2 (by decide) ?_
  refine r_aload_n (pc' := 6) hx (hd 3) rfl 0 rfl rfl ?_
  refine q_callT (K := fun _ : Int32 => some 144) (As := []) (rest := [.int 144]) hx (hd 4) mdJ_coder miJ_coder msJ_coder mlJ_335 (cJ_coder (xl x) w M) rfl ⟨Nat.le_of_ble_eq_true rfl, Nat.le_of_ble_eq_true rfl⟩ rfl rfl (Nat.le_of_ble_eq_true rfl) (fun r => [.int r, .int 144]) (fun _ => M) (fun _ => ⟨rfl, rfl⟩) (fun r hr => ?_)
  cases hr
  refine r_ishr (pc' := 10) hx (hd 5) rfl ?_
  exact r_iret hx (hd 6) (by decide) rfl hz
set_option maxRecDepth 20000 in
theorem cJ_isLatin1 (l : Launch) (w : WX) (M : Mem) : Ct l w ({ cls := "java/lang/String", name := "isLatin1", desc := "()Z" } : Jvm.MethodName) prog_19_method_154_code 1 (some .boolean) 0 0 evI (emC M) [.ref (wsa w 5)] M (some 1) := by
  refine ct_of (by decide) (Nat.le_of_ble_eq_true rfl) (fun x hl hx hb hz => ?_)
  subst hl
  have hd : ∀ i, DAt (xc x).code (tbJ_isLatin1[i]?) := fun i => by rw [hb]; exact dat_of dJ_isLatin1 i
  have hs := hx.2.2.2.1.2.2.2.2
  show C x w (Qn x w evI (emC M)) 1 0 [(0, .ref (wsa w 5))] [] M (some 1)
  refine q_gets hx (hd 0) hs.2.2.1 lk_String_38 ?_
  refine q_if_eqF 17 hx (hd 1) (by decide) (by decide) ?_
  refine r_aload_n (pc' := 7) hx (hd 2) rfl 0 rfl rfl ?_
  refine q_sget hx (hd 3) (hs.2.1.1 0 (by decide)).2.1 lk_String_15 ?_
  refine q_if_neF 17 hx (hd 4) (by decide) rfl ?_
  refine r_iconst (pc' := 14) (v := 1) hx (hd 5) (by decide) rfl ?_
  refine r_goto (tgt := 18) hx (hd 6) (by decide) ?_
  exact q_yret hx (hd 8) rfl rfl rfl hz
set_option maxRecDepth 20000 in
theorem cJ_pcheck (l : Launch) (w : WX) (M : Mem) (i n : Int32) (r : Option Nat) (hi : inb i (ix n) = true) (hn : ¬ n < 0) : Ct l w ({ cls := "jdk/internal/util/Preconditions", name := "checkIndex", desc := "(IILjava/util/function/BiFunction;)I" } : Jvm.MethodName) prog_24_method_11_code 3 (some .int) 0 0 evI (emC M) [.int i, .int n, va_rf r] M (some i) := by
  refine ct_of (by decide) (by cases r <;> exact Nat.le_of_ble_eq_true rfl) (fun x hl hx hb hz => ?_)
  subst hl
  have hd : ∀ i, DAt (xc x).code (tbJ_pcheck[i]?) := fun i => by rw [hb]; exact dat_of dJ_pcheck i
  have h0 : ¬ i < 0 := fun h => inb_in hi (Or.inl h)
  have h1 : i < n := by
    have := inb_lt hi
    rw [Int32.lt_iff_toInt_lt]
    have e1 : i.toInt = (ix i : Int) := by
      have : ¬ i.toInt < 0 := fun z => h0 (by rw [Int32.lt_iff_toInt_lt]; exact z)
      show i.toInt = ((i.toInt.toNat : Nat) : Int)
      omega
    have e2 : n.toInt = (ix n : Int) := by
      have : ¬ n.toInt < 0 := fun z => hn (by rw [Int32.lt_iff_toInt_lt]; exact z)
      show n.toInt = ((n.toInt.toNat : Nat) : Int)
      omega
    omega
  have e : lv_args 0 [.int i, .int n, va_rf r] = [(0, .int i), (1, .int n), (2, va_rf r)] := by cases r <;> rfl
  rw [e]
  refine r_iload_n (pc' := 1) hx (hd 0) rfl 0 rfl rfl ?_
  refine q_if_ltF 9 hx (hd 1) (by decide) h0 ?_
  refine r_iload_n (pc' := 5) hx (hd 2) rfl 0 rfl rfl ?_
  refine r_iload_n (pc' := 6) hx (hd 3) rfl 1 rfl rfl ?_
  refine q_icmp_ltT 16 hx (hd 4) (by decide) h1 ?_
  refine r_iload_n (pc' := 17) hx (hd 10) rfl 0 rfl rfl ?_
  exact r_iret hx (hd 11) rfl rfl hz
set_option maxRecDepth 20000 in
theorem cJ_check (l : Launch) (w : WX) (M : Mem) (i n : Int32) (hi : inb i (ix n) = true) (hn : ¬ n < 0) : Ct l w ({ cls := "java/lang/String", name := "checkIndex", desc := "(II)V" } : Jvm.MethodName) prog_19_method_155_code 2 none 1 22 evU emU [.int i, .int n] M (some M) := by
  refine ct_of (by decide) (Nat.le_of_ble_eq_true rfl) (fun x hl hx hb hz => ?_)
  subst hl
  have hd : ∀ i, DAt (xc x).code (tbJ_check[i]?) := fun i => by rw [hb]; exact dat_of dJ_check i
  have hs := hx.2.2.2.1.2.2.2.2
  show C x w (Qn x w evU emU) 2 0 [(0, .int i), (1, .int n)] [] M (some M)
  refine r_iload_n (pc' := 1) hx (hd 0) rfl 0 rfl rfl ?_
  refine r_iload_n (pc' := 2) hx (hd 1) rfl 1 rfl rfl ?_
  obtain ⟨r, hr⟩ : ∃ r : Option Nat, va_Z "jdk/internal/util/Preconditions" "SIOOBE_FORMATTER" "Ljava/util/function/BiFunction;" (va_rf r) (A0 w) (xs_ x) (xs_ x).heap := by
    rcases hs.2.2.2 with h | ⟨t, h⟩
    · exact ⟨none, h⟩
    · exact ⟨some t, h⟩
  refine q_gets hx (hd 2) hr lk_String_1053 ?_
  refine r_callS (pc' := 8) (K := fun _ : Int32 => some M) (As := [.int i, .int n, va_rf r]) (rest := []) hx (hd 3) mdJ_pcheck mstJ_pcheck mlJ_1059 (cJ_pcheck (xl x) w M i n r hi hn) ⟨Nat.le_of_ble_eq_true rfl, Nat.le_of_ble_eq_true rfl⟩ rfl rfl (Nat.le_of_ble_eq_true rfl) (fun r => [.int r]) (fun _ => M) (fun _ => ⟨rfl, rfl⟩) rfl (fun r hr => ?_)
  refine r_pop (pc' := 9) hx (hd 4) rfl rfl ?_
  exact r_vret hx (hd 5) rfl rfl hz
set_option maxRecDepth 20000 in
theorem cJ_latAt (l : Launch) (w : WX) (M : Mem) (i : Int32) (hi : inb i 144 = true) : Ct l w ({ cls := "java/lang/StringLatin1", name := "charAt", desc := "([BI)C" } : Jvm.MethodName) prog_20_method_2_code 2 (some .char) 2 43 evI (emC M) [.ref (wsa w 6), .int i] M (some (wdC (ix i))) := by
  refine ct_of (by decide) (Nat.le_of_ble_eq_true rfl) (fun x hl hx hb hz => ?_)
  subst hl
  have hd : ∀ i, DAt (xc x).code (tbJ_latAt[i]?) := fun i => by rw [hb]; exact dat_of dJ_latAt i
  have hs := hx.2.2.2.1.2.2.2.2
  have hT := (hs.2.1.1 0 (by decide)).2.2.2
  show C x w (Qn x w evI (emC M)) 2 0 [(0, .ref (wsa w 6)), (1, .int i)] [] M (some (wdC (ix i)))
  refine r_iload_n (pc' := 1) hx (hd 0) rfl 1 rfl rfl ?_
  refine r_aload_n (pc' := 2) hx (hd 1) rfl 0 rfl rfl ?_
  refine q_blen (v := 144) hx (hd 2) hT (by decide) ?_
  refine r_callS (pc' := 6) (g := some M) (K := fun _ => some (wdC (ix i))) (As := [.int i, .int 144]) (rest := []) hx (hd 3) mdJ_check mstJ_check mlJ_9 (cJ_check (xl x) w M i 144 hi (by decide)) ⟨Nat.le_of_ble_eq_true rfl, Nat.le_of_ble_eq_true rfl⟩ rfl rfl (Nat.le_of_ble_eq_true rfl) (fun _ => []) (fun q => q) (fun _ => ⟨rfl, rfl⟩) rfl (fun M2 hM2 => ?_)
  cases hM2
  have hb9 := inb_lt hi
  generalize hk : ix i = k at hb9 ⊢
  have key : wdB.getD k 0 &&& 255 = wdC k ∧ ((wdC k).toUInt32 % 65536).toInt32 = wdC k ∧ narrow .char (.int (wdC k)) = .int (wdC k) := wd_all k hb9
  refine r_aload_n (pc' := 7) hx (hd 4) rfl 0 rfl rfl ?_
  refine r_iload_n (pc' := 8) hx (hd 5) rfl 1 rfl rfl ?_
  refine q_bald (v := .int (wdB.getD k 0)) hx (hd 6) hT hi (by rw [hk]; rfl) ?_
  refine r_sipush (pc' := 12) (v := 255) hx (hd 7) (by decide) rfl ?_
  refine r_iand (pc' := 13) hx (hd 8) rfl ?_
  refine q_i2c (v := wdC k) hx (hd 9) (by rw [key.1]; exact key.2.1) ?_
  exact q_yret hx (hd 10) key.2.2 rfl rfl hz
set_option maxRecDepth 20000 in
theorem cJ_charAt (l : Launch) (w : WX) (M : Mem) (i : Int32) (hi : inb i 144 = true) : Ct l w ({ cls := "java/lang/String", name := "charAt", desc := "(I)C" } : Jvm.MethodName) prog_19_method_56_code 2 (some .char) 3 64 evI (emC M) [.ref (wsa w 5), .int i] M (some (wdC (ix i))) := by
  refine ct_of (by decide) (Nat.le_of_ble_eq_true rfl) (fun x hl hx hb hz => ?_)
  subst hl
  have hd : ∀ i, DAt (xc x).code (tbJ_charAt[i]?) := fun i => by rw [hb]; exact dat_of dJ_charAt i
  have hs := hx.2.2.2.1.2.2.2.2
  show C x w (Qn x w evI (emC M)) 2 0 [(0, .ref (wsa w 5)), (1, .int i)] [] M (some (wdC (ix i)))
  refine r_aload_n (pc' := 1) hx (hd 0) rfl 0 rfl rfl ?_
  refine q_callT (K := fun _ : Int32 => some (wdC (ix i))) (As := []) (rest := []) hx (hd 1) mdJ_isLatin1 miJ_isLatin1 msJ_isLatin1 mlJ_492 (cJ_isLatin1 (xl x) w M) rfl ⟨Nat.le_of_ble_eq_true rfl, Nat.le_of_ble_eq_true rfl⟩ rfl rfl (Nat.le_of_ble_eq_true rfl) (fun r => [.int r]) (fun _ => M) (fun _ => ⟨rfl, rfl⟩) (fun r hr => ?_)
  cases hr
  refine q_if_eqF 16 hx (hd 2) (by decide) (by decide) ?_
  refine r_aload_n (pc' := 8) hx (hd 3) rfl 0 rfl rfl ?_
  refine q_sget hx (hd 4) (hs.2.1.1 0 (by decide)).2.2.1 lk_String_9 ?_
  refine r_iload_n (pc' := 12) hx (hd 5) rfl 1 rfl rfl ?_
  refine r_callS (pc' := 15) (K := fun r : Int32 => some r) (As := [.ref (wsa w 6), .int i]) (rest := []) hx (hd 6) mdJ_latAt mstJ_latAt mlJ_495 (cJ_latAt (xl x) w M i hi) ⟨Nat.le_of_ble_eq_true rfl, Nat.le_of_ble_eq_true rfl⟩ rfl rfl (Nat.le_of_ble_eq_true rfl) (fun r => [.int r]) (fun _ => M) (fun _ => ⟨rfl, rfl⟩) rfl (fun r hr => ?_)
  cases hr
  exact q_yret hx (hd 7) (wd_all _ (inb_lt hi)).2.2 rfl rfl hz
section RS2
variable {τ : Type} {own : String} {nL fr lo : Nat} {ret : Option FieldType} {w : WX} {x : MX} {Q : τ → State → Prop} {pc : Nat} {L : List (Nat × Value)} {rest : List Value} {M : Mem} {f : Option τ}
theorem r_strLen {idx : Nat} {pc' : Nat} (hx : Ok own nL ret fr lo w x) (hdg : decode (xc x).code pc = .ok (.invokevirtual idx, 3)) (hlk : Cond.methodLink own idx ({ cls := "java/lang/String", name := "length", desc := "()I" } : Jvm.MethodName) ∈ UW) (hR : 6 ≤ fr ∧ 160 ≤ lo) (hcat : (rest.map fun v => v.category).sum ≤ 8) (hp : pc + 3 = pc') (kk : C x w Q nL pc' L (.int 144 :: rest) M f) : C x w Q nL pc L (.ref (wsa w 5) :: rest) M f := by
  subst hp
  have h := q_callT (K := fun _ : Int32 => f) (As := []) (rest := rest) (g := some 144) hx hdg mdJ_length miJ_length msJ_length hlk (cJ_length (xl x) w M) rfl ⟨by omega, by omega⟩ rfl rfl hcat (fun r => .int r :: rest) (fun _ => M) (fun _ => ⟨rfl, rfl⟩) (fun r hr => by cases hr; exact kk)
  exact h
theorem r_strAt {idx : Nat} {i : Int32} {pc' : Nat} (hx : Ok own nL ret fr lo w x) (hdg : decode (xc x).code pc = .ok (.invokevirtual idx, 3)) (hlk : Cond.methodLink own idx ({ cls := "java/lang/String", name := "charAt", desc := "(I)C" } : Jvm.MethodName) ∈ UW) (hi : inb i 144 = true) (hR : 6 ≤ fr ∧ 160 ≤ lo) (hcat : (rest.map fun v => v.category).sum ≤ 8) (hp : pc + 3 = pc') (kk : C x w Q nL pc' L (.int (wdC (ix i)) :: rest) M f) : C x w Q nL pc L (.int i :: .ref (wsa w 5) :: rest) M f := by
  subst hp
  have h := q_callT (K := fun _ : Int32 => f) (As := [.int i]) (rest := rest) (g := some (wdC (ix i))) hx hdg mdJ_charAt miJ_charAt msJ_charAt hlk (cJ_charAt (xl x) w M i hi) rfl ⟨by omega, by omega⟩ rfl rfl hcat (fun r => .int r :: rest) (fun _ => M) (fun _ => ⟨rfl, rfl⟩) (fun r hr => by cases hr; exact kk)
  exact h
end RS2
