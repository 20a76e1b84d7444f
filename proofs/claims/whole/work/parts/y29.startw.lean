abbrev fl1 : List Cond := flatC (Jvm.Cond.and given_1 narrow_1)
theorem na_0 : Cond.arrayOf (Term.static "CribbageRoom" "LEAST_TERMS" "[I") .int ∈ fl1 := List.mem_of_getElem? (i := 31) (by decide +kernel)
theorem nl_0 : Cond.eq (.length (Term.static "CribbageRoom" "LEAST_TERMS" "[I")) (.int 4) ∈ fl1 := List.mem_of_getElem? (i := 32) (by decide +kernel)
theorem ne_0 : ∀ j, j < 4 → Cond.eq (.elem (Term.static "CribbageRoom" "LEAST_TERMS" "[I") (.int (Int32.ofNat j))) (.int (([0, 0, 0, 5] : List Int32).getD j 0)) ∈ fl1 := fun j hj => by
  match j, hj with
  | 0, _ => exact List.mem_of_getElem? (i := 33) (by decide +kernel)
  | 1, _ => exact List.mem_of_getElem? (i := 34) (by decide +kernel)
  | 2, _ => exact List.mem_of_getElem? (i := 35) (by decide +kernel)
  | 3, _ => exact List.mem_of_getElem? (i := 36) (by decide +kernel)
  | n + 4, h => exact absurd h (by omega)
theorem nz_0 : Cond.laysStatic "CribbageRoom" "LEAST_TERMS" "[I" ∈ lw_tbl := in_3 _ (List.mem_of_getElem? (i := 139) rfl)
theorem ni_0 : Cond.initialized "CribbageRoom" ∈ lw_tbl := in_1 _ (List.mem_of_getElem? (i := 1) rfl)
theorem na_1 : Cond.arrayOf (Term.static "CribbageRoom" "MOST_TERMS" "[I") .int ∈ fl1 := List.mem_of_getElem? (i := 38) (by decide +kernel)
theorem nl_1 : Cond.eq (.length (Term.static "CribbageRoom" "MOST_TERMS" "[I")) (.int 4) ∈ fl1 := List.mem_of_getElem? (i := 39) (by decide +kernel)
theorem ne_1 : ∀ j, j < 4 → Cond.eq (.elem (Term.static "CribbageRoom" "MOST_TERMS" "[I") (.int (Int32.ofNat j))) (.int (([999, 10, 9, 31] : List Int32).getD j 0)) ∈ fl1 := fun j hj => by
  match j, hj with
  | 0, _ => exact List.mem_of_getElem? (i := 40) (by decide +kernel)
  | 1, _ => exact List.mem_of_getElem? (i := 41) (by decide +kernel)
  | 2, _ => exact List.mem_of_getElem? (i := 42) (by decide +kernel)
  | 3, _ => exact List.mem_of_getElem? (i := 43) (by decide +kernel)
  | n + 4, h => exact absurd h (by omega)
theorem nz_1 : Cond.laysStatic "CribbageRoom" "MOST_TERMS" "[I" ∈ lw_tbl := in_3 _ (List.mem_of_getElem? (i := 141) rfl)
theorem ni_1 : Cond.initialized "CribbageRoom" ∈ lw_tbl := in_1 _ (List.mem_of_getElem? (i := 1) rfl)
theorem na_2 : Cond.arrayOf (Term.static "CribbageRoom" "REFUSALS" "[I") .int ∈ fl1 := List.mem_of_getElem? (i := 5) (by decide +kernel)
theorem nl_2 : Cond.eq (.length (Term.static "CribbageRoom" "REFUSALS" "[I")) (.int 5) ∈ fl1 := List.mem_of_getElem? (i := 6) (by decide +kernel)
theorem ne_2 : ∀ j, j < 5 → Cond.eq (.elem (Term.static "CribbageRoom" "REFUSALS" "[I") (.int (Int32.ofNat j))) (.int (([-1, -2, -3, -5, -6] : List Int32).getD j 0)) ∈ fl1 := fun j hj => by
  match j, hj with
  | 0, _ => exact List.mem_of_getElem? (i := 7) (by decide +kernel)
  | 1, _ => exact List.mem_of_getElem? (i := 8) (by decide +kernel)
  | 2, _ => exact List.mem_of_getElem? (i := 9) (by decide +kernel)
  | 3, _ => exact List.mem_of_getElem? (i := 10) (by decide +kernel)
  | 4, _ => exact List.mem_of_getElem? (i := 11) (by decide +kernel)
  | n + 5, h => exact absurd h (by omega)
theorem nz_2 : Cond.laysStatic "CribbageRoom" "REFUSALS" "[I" ∈ lw_tbl := in_2 _ (List.mem_of_getElem? (i := 178) rfl)
theorem ni_2 : Cond.initialized "CribbageRoom" ∈ lw_tbl := in_1 _ (List.mem_of_getElem? (i := 1) rfl)
theorem na_3 : Cond.arrayOf (Term.static "CribbageRoom$Worth" "FIRST_ITEMS" "[I") .int ∈ fl1 := List.mem_of_getElem? (i := 13) (by decide +kernel)
theorem nl_3 : Cond.eq (.length (Term.static "CribbageRoom$Worth" "FIRST_ITEMS" "[I")) (.int 6) ∈ fl1 := List.mem_of_getElem? (i := 14) (by decide +kernel)
theorem ne_3 : ∀ j, j < 6 → Cond.eq (.elem (Term.static "CribbageRoom$Worth" "FIRST_ITEMS" "[I") (.int (Int32.ofNat j))) (.int (([0, 1, 0, 3, 0, 0] : List Int32).getD j 0)) ∈ fl1 := fun j hj => by
  match j, hj with
  | 0, _ => exact List.mem_of_getElem? (i := 15) (by decide +kernel)
  | 1, _ => exact List.mem_of_getElem? (i := 16) (by decide +kernel)
  | 2, _ => exact List.mem_of_getElem? (i := 17) (by decide +kernel)
  | 3, _ => exact List.mem_of_getElem? (i := 18) (by decide +kernel)
  | 4, _ => exact List.mem_of_getElem? (i := 19) (by decide +kernel)
  | 5, _ => exact List.mem_of_getElem? (i := 20) (by decide +kernel)
  | n + 6, h => exact absurd h (by omega)
theorem nz_3 : Cond.laysStatic "CribbageRoom$Worth" "FIRST_ITEMS" "[I" ∈ lw_tbl := in_3 _ (List.mem_of_getElem? (i := 85) rfl)
theorem ni_3 : Cond.initialized "CribbageRoom$Worth" ∈ lw_tbl := in_1 _ (List.mem_of_getElem? (i := 8) rfl)
theorem na_4 : Cond.arrayOf (Term.static "CribbageRoom$Worth" "ITEM_ENDS" "[I") .int ∈ fl1 := List.mem_of_getElem? (i := 22) (by decide +kernel)
theorem nl_4 : Cond.eq (.length (Term.static "CribbageRoom$Worth" "ITEM_ENDS" "[I")) (.int 6) ∈ fl1 := List.mem_of_getElem? (i := 23) (by decide +kernel)
theorem ne_4 : ∀ j, j < 6 → Cond.eq (.elem (Term.static "CribbageRoom$Worth" "ITEM_ENDS" "[I") (.int (Int32.ofNat j))) (.int (([0, 9, 13, 9, 8, 4] : List Int32).getD j 0)) ∈ fl1 := fun j hj => by
  match j, hj with
  | 0, _ => exact List.mem_of_getElem? (i := 24) (by decide +kernel)
  | 1, _ => exact List.mem_of_getElem? (i := 25) (by decide +kernel)
  | 2, _ => exact List.mem_of_getElem? (i := 26) (by decide +kernel)
  | 3, _ => exact List.mem_of_getElem? (i := 27) (by decide +kernel)
  | 4, _ => exact List.mem_of_getElem? (i := 28) (by decide +kernel)
  | 5, _ => exact List.mem_of_getElem? (i := 29) (by decide +kernel)
  | n + 6, h => exact absurd h (by omega)
theorem nz_4 : Cond.laysStatic "CribbageRoom$Worth" "ITEM_ENDS" "[I" ∈ lw_tbl := in_3 _ (List.mem_of_getElem? (i := 87) rfl)
theorem ni_4 : Cond.initialized "CribbageRoom$Worth" ∈ lw_tbl := in_1 _ (List.mem_of_getElem? (i := 8) rfl)
theorem nx_ex : Cond.exactly (Term.string "CribbageRoom$Reader" 130) "java/lang/String" ∈ fl1 := List.mem_of_getElem? (i := 88) (by decide +kernel)
theorem nx_co : Cond.eq (.field (Term.string "CribbageRoom$Reader" 130) "java/lang/String" "coder" "B") (.int 0) ∈ fl1 := List.mem_of_getElem? (i := 89) (by decide +kernel)
theorem nx_ar : Cond.arrayOf (Term.field (Term.string "CribbageRoom$Reader" 130) "java/lang/String" "value" "[B") .byte ∈ fl1 := List.mem_of_getElem? (i := 90) (by decide +kernel)
theorem nx_le : Cond.eq (.length (Term.field (Term.string "CribbageRoom$Reader" 130) "java/lang/String" "value" "[B")) (.int 144) ∈ fl1 := List.mem_of_getElem? (i := 91) (by decide +kernel)
set_option maxRecDepth 20000 in
theorem nx_el : ∀ j, j < 144 → Cond.eq (.elem (Term.field (Term.string "CribbageRoom$Reader" 130) "java/lang/String" "value" "[B") (.int (Int32.ofNat j))) (.int (wdB.getD j 0)) ∈ fl1 := fun j hj => List.mem_of_getElem? (i := 92 + j) ((by decide +kernel : ∀ j, j < 144 → fl1[92 + j]? = some (Cond.eq (.elem (Term.field (Term.string "CribbageRoom$Reader" 130) "java/lang/String" "value" "[B") (.int (Int32.ofNat j))) (.int (wdB.getD j 0)))) j hj)
theorem nx_cs : Cond.eq (.static "java/lang/String" "COMPACT_STRINGS" "Z") (.int 1) ∈ fl1 := List.mem_of_getElem? (i := 44) (by decide +kernel)
theorem nx_sf : Cond.isRef (.static "jdk/internal/util/Preconditions" "SIOOBE_FORMATTER" "Ljava/util/function/BiFunction;") ∈ fl1 := List.mem_of_getElem? (i := 45) (by decide +kernel)
theorem nzz_cs : Cond.laysStatic "java/lang/String" "COMPACT_STRINGS" "Z" ∈ lw_tbl := in_3 _ (List.mem_of_getElem? (i := 208) rfl)
theorem nii_cs : Cond.initialized "java/lang/String" ∈ lw_tbl := in_1 _ (List.mem_of_getElem? (i := 16) rfl)
theorem nzz_sf : Cond.laysStatic "jdk/internal/util/Preconditions" "SIOOBE_FORMATTER" "Ljava/util/function/BiFunction;" ∈ lw_tbl := in_3 _ (List.mem_of_getElem? (i := 224) rfl)
theorem nii_sf : Cond.initialized "jdk/internal/util/Preconditions" ∈ lw_tbl := in_1 _ (List.mem_of_getElem? (i := 18) rfl)
theorem nsr : Cond.stringRef "CribbageRoom$Reader" 130 "value fifteen pair run flush nob bars lay play show deal rank suit size crib mood phase done latest count turn pegs card if times by or and not " ∈ lw_tbl := in_3 _ (List.mem_of_getElem? (i := 198) rfl)
theorem clL_7 : Cond.classLink "CribbageRoomLaw" 7 "CribbageRoom" ∈ UW := uw_in (in_1 _ (List.mem_of_getElem? (i := 23) rfl)) rfl
theorem clL_10 : Cond.classLink "CribbageRoomLaw" 10 "CribbageRoomModel" ∈ UW := uw_in (in_6 _ (List.mem_of_getElem? (i := 41) rfl)) rfl
theorem mlL_9 : Cond.methodLink "CribbageRoomLaw" 9 ({ cls := "CribbageRoom", name := "<init>", desc := "()V" } : Jvm.MethodName) ∈ UW := uw_in (in_1 _ (List.mem_of_getElem? (i := 25) rfl)) rfl
theorem mdL_X11_init : MD ({ cls := "CribbageRoom", name := "<init>", desc := "()V" } : Jvm.MethodName) prog_1_method_1_code 1 none 0 := ⟨uw_in (in_1 _ (List.mem_of_getElem? (i := 27) rfl)) rfl, uw_in (in_1 _ (List.mem_of_getElem? (i := 1) rfl)) rfl, by decide, by decide, by decide +kernel⟩
theorem miL_X11_init : Cond.instanceMethod ({ cls := "CribbageRoom", name := "<init>", desc := "()V" } : Jvm.MethodName) ∈ UW := uw_in (in_1 _ (List.mem_of_getElem? (i := 26) rfl)) rfl
theorem mlL_12 : Cond.methodLink "CribbageRoomLaw" 12 ({ cls := "CribbageRoomModel", name := "<init>", desc := "()V" } : Jvm.MethodName) ∈ UW := uw_in (in_6 _ (List.mem_of_getElem? (i := 43) rfl)) rfl
theorem mdL_X12_init : MD ({ cls := "CribbageRoomModel", name := "<init>", desc := "()V" } : Jvm.MethodName) prog_14_method_1_code 2 none 0 := ⟨uw_in (in_6 _ (List.mem_of_getElem? (i := 45) rfl)) rfl, uw_in (in_1 _ (List.mem_of_getElem? (i := 13) rfl)) rfl, by decide, by decide, by decide +kernel⟩
theorem miL_X12_init : Cond.instanceMethod ({ cls := "CribbageRoomModel", name := "<init>", desc := "()V" } : Jvm.MethodName) ∈ UW := uw_in (in_6 _ (List.mem_of_getElem? (i := 44) rfl)) rfl
