/-! ===== the constructors of the nested classes ===== -/
theorem Bx.cell {D : va_G} {b : Nat} {s : State} {es : List va_E} {H : Heap} {locs : List Loc} (hB : Bx D b s es H locs) {j : Nat} {a a' : ClassId × vp_A} (hj : es[j]? = some (.inl a)) (he : vp_cell a.1 a.2 = vp_cell a'.1 a'.2) : Bx D b s (es.set j (.inl a')) H locs := by
  obtain ⟨hz, hP, hS⟩ := hB
  refine ⟨by rw [List.length_set]; exact hz, fun k q hk => ?_, hS⟩
  obtain ⟨h1, h2⟩ := wb_some hk
  obtain ⟨aq, x⟩ := q
  dsimp only at h1 h2
  subst h2
  rw [List.getElem?_set] at h1
  by_cases e : j = k
  · subst e
    have h3 : H[b + j]? = some (vp_cell a.1 a.2) := hP j _ (wb_in hj)
    have hlt : j < es.length := (List.getElem?_eq_some_iff.mp hj).1
    rw [if_pos rfl, if_pos hlt] at h1
    cases h1
    show H[b + j]? = some (vp_cell a'.1 a'.2)
    rw [← he]
    exact h3
  · rw [if_neg e] at h1
    exact hP k _ (wb_in h1)
theorem sh4 {cA : Nat} : vp_cell cA (4, .inl (upd (upd (upd (upd (fun _ => 0) 0 (-1)) 1 (-1)) 2 (-1)) 3 (-1))) = vp_cell cA (4, .inl (fun _ => -1)) := by
  rw [vp_cell_i, vp_cell_i]
  refine arrV_cg (fun j hj => ?_)
  rcases (show j = 0 ∨ j = 1 ∨ j = 2 ∨ j = 3 by omega) with q | q | q | q <;> subst q <;> rfl
def cwL : List (Nat × Cond) := [(94, Cond.methodLink "DearerByUse$Words" (3 : Nat) ({ cls := "java/lang/Object", name := "<init>", desc := "()V" } : MethodName)), (87, Cond.instanceMethod ({ cls := "java/lang/Object", name := "<init>", desc := "()V" } : MethodName)), (88, Cond.code ({ cls := "java/lang/Object", name := "<init>", desc := "()V" } : MethodName) object_method_1_code (1 : Nat) (Option.none : Option Jvm.ClassFile.FieldType)), (117, Cond.arrayClass FieldType.int), (97, Cond.fieldLink "DearerByUse$Words" (9 : Nat) "DearerByUse$Words" "things" "[I"), (100, Cond.fieldLink "DearerByUse$Words" (15 : Nat) "DearerByUse$Words" "lengths" "[I"), (95, Cond.classLink "DearerByUse$Words" (18 : Nat) "[[I"), (103, Cond.fieldLink "DearerByUse$Words" (20 : Nat) "DearerByUse$Words" "letters" "[[I"), (123, Cond.methodLink "DearerByUse$Writers" (3 : Nat) ({ cls := "java/lang/Object", name := "<init>", desc := "()V" } : MethodName)), (124, Cond.fieldLink "DearerByUse$Writers" (9 : Nat) "DearerByUse$Writers" "things" "[I"), (128, Cond.fieldLink "DearerByUse$Writers" (15 : Nat) "DearerByUse$Writers" "hours" "[I"), (132, Cond.fieldLink "DearerByUse$Writers" (18 : Nat) "DearerByUse$Writers" "purses" "[I"), (154, Cond.methodLink "DearerByUse$Laws" (3 : Nat) ({ cls := "java/lang/Object", name := "<init>", desc := "()V" } : MethodName)), (155, Cond.fieldLink "DearerByUse$Laws" (9 : Nat) "DearerByUse$Laws" "kinds" "[I"), (157, Cond.fieldLink "DearerByUse$Laws" (15 : Nat) "DearerByUse$Laws" "numbers" "[I"), (180, Cond.methodLink "DearerByUse$Reader" (3 : Nat) ({ cls := "java/lang/Object", name := "<init>", desc := "()V" } : MethodName)), (181, Cond.fieldLink "DearerByUse$Reader" (9 : Nat) "DearerByUse$Reader" "tape" "[I"), (184, Cond.fieldLink "DearerByUse$Reader" (15 : Nat) "DearerByUse$Reader" "code" "[I"), (186, Cond.fieldLink "DearerByUse$Reader" (18 : Nat) "DearerByUse$Reader" "ends" "[I"), (220, Cond.methodLink "DearerByUse$Texts" (3 : Nat) ({ cls := "java/lang/Object", name := "<init>", desc := "()V" } : MethodName)), (221, Cond.classLink "DearerByUse$Texts" (9 : Nat) "[[I"), (222, Cond.fieldLink "DearerByUse$Texts" (11 : Nat) "DearerByUse$Texts" "codes" "[[I"), (223, Cond.fieldLink "DearerByUse$Texts" (18 : Nat) "DearerByUse$Texts" "ends" "[[I"), (224, Cond.fieldLink "DearerByUse$Texts" (21 : Nat) "DearerByUse$Texts" "names" "[I"), (225, Cond.fieldLink "DearerByUse$Texts" (25 : Nat) "DearerByUse$Texts" "stack" "[I"), (248, Cond.methodLink "DearerByUse$Day" (3 : Nat) ({ cls := "java/lang/Object", name := "<init>", desc := "()V" } : MethodName)), (254, Cond.fieldLink "DearerByUse$Day" (9 : Nat) "DearerByUse$Day" "used" "[I"), (255, Cond.fieldLink "DearerByUse$Day" (15 : Nat) "DearerByUse$Day" "hours" "[I"), (259, Cond.fieldLink "DearerByUse$Day" (18 : Nat) "DearerByUse$Day" "said" "[I"), (261, Cond.fieldLink "DearerByUse$Day" (21 : Nat) "DearerByUse$Day" "paid" "[I"), (263, Cond.fieldLink "DearerByUse$Day" (24 : Nat) "DearerByUse$Day" "good" "[I"), (265, Cond.fieldLink "DearerByUse$Day" (27 : Nat) "DearerByUse$Day" "goodBy" "[I"), (249, Cond.fieldLink "DearerByUse$Day" (30 : Nat) "DearerByUse$Day" "now" "[I"), (250, Cond.fieldLink "DearerByUse$Day" (33 : Nat) "DearerByUse$Day" "words" "LDearerByUse$Words;"), (251, Cond.fieldLink "DearerByUse$Day" (37 : Nat) "DearerByUse$Day" "wanting" "LDearerByUse$Writers;"), (252, Cond.fieldLink "DearerByUse$Day" (41 : Nat) "DearerByUse$Day" "laws" "LDearerByUse$Laws;"), (253, Cond.fieldLink "DearerByUse$Day" (45 : Nat) "DearerByUse$Day" "texts" "LDearerByUse$Texts;"), (297, Cond.methodLink "DearerByUse$Image" (3 : Nat) ({ cls := "java/lang/Object", name := "<init>", desc := "()V" } : MethodName)), (299, Cond.fieldLink "DearerByUse$Image" (9 : Nat) "DearerByUse$Image" "used" "[I"), (303, Cond.fieldLink "DearerByUse$Image" (15 : Nat) "DearerByUse$Image" "things" "[I"), (304, Cond.fieldLink "DearerByUse$Image" (18 : Nat) "DearerByUse$Image" "hours" "[I"), (305, Cond.fieldLink "DearerByUse$Image" (21 : Nat) "DearerByUse$Image" "purses" "[I"), (307, Cond.fieldLink "DearerByUse$Image" (24 : Nat) "DearerByUse$Image" "numbers" "[I"), (338, Cond.methodLink "DearerByUse$Sheets" (3 : Nat) ({ cls := "java/lang/Object", name := "<init>", desc := "()V" } : MethodName)), (340, Cond.fieldLink "DearerByUse$Sheets" (9 : Nat) "DearerByUse$Sheets" "sorts" "[I"), (342, Cond.fieldLink "DearerByUse$Sheets" (15 : Nat) "DearerByUse$Sheets" "sizes" "[I"), (339, Cond.classLink "DearerByUse$Sheets" (18 : Nat) "[[I"), (344, Cond.fieldLink "DearerByUse$Sheets" (20 : Nat) "DearerByUse$Sheets" "rows" "[[I")]
set_option maxRecDepth 100000 in
theorem cwL_ok : cwL.all wOk = true := by decide +kernel
def dl_Words : List (Nat × Instr × Nat) := [(0, .aload_n 0, 1), (1, .invokespecial 3, 3), (4, .aload_n 0, 1), (5, .bipush 10, 2), (7, .newarray .int, 2), (9, .putfield 9, 3), (12, .aload_n 0, 1), (13, .bipush 10, 2), (15, .newarray .int, 2), (17, .putfield 15, 3), (20, .aload_n 0, 1), (21, .bipush 10, 2), (23, .bipush 6, 2), (25, .multianewarray 18 2, 4), (29, .putfield 20, 3), (32, .return_, 1)]
set_option maxRecDepth 100000 in
theorem dl_Words_ok : dl_Words.all (dOk prog_8_method_1_code) = true := by decide +kernel
def dl_Writers : List (Nat × Instr × Nat) := [(0, .aload_n 0, 1), (1, .invokespecial 3, 3), (4, .aload_n 0, 1), (5, .iconst 5, 1), (6, .newarray .int, 2), (8, .putfield 9, 3), (11, .aload_n 0, 1), (12, .iconst 5, 1), (13, .newarray .int, 2), (15, .putfield 15, 3), (18, .aload_n 0, 1), (19, .iconst 5, 1), (20, .newarray .int, 2), (22, .putfield 18, 3), (25, .return_, 1)]
set_option maxRecDepth 100000 in
theorem dl_Writers_ok : dl_Writers.all (dOk prog_9_method_1_code) = true := by decide +kernel
def dl_Laws : List (Nat × Instr × Nat) := [(0, .aload_n 0, 1), (1, .invokespecial 3, 3), (4, .aload_n 0, 1), (5, .bipush 6, 2), (7, .newarray .int, 2), (9, .putfield 9, 3), (12, .aload_n 0, 1), (13, .bipush 6, 2), (15, .newarray .int, 2), (17, .putfield 15, 3), (20, .return_, 1)]
set_option maxRecDepth 100000 in
theorem dl_Laws_ok : dl_Laws.all (dOk prog_4_method_1_code) = true := by decide +kernel
def dl_Reader : List (Nat × Instr × Nat) := [(0, .aload_n 0, 1), (1, .invokespecial 3, 3), (4, .aload_n 0, 1), (5, .sipush 160, 3), (8, .newarray .int, 2), (10, .putfield 9, 3), (13, .aload_n 0, 1), (14, .sipush 160, 3), (17, .newarray .int, 2), (19, .putfield 15, 3), (22, .aload_n 0, 1), (23, .iconst 3, 1), (24, .newarray .int, 2), (26, .putfield 18, 3), (29, .return_, 1)]
set_option maxRecDepth 100000 in
theorem dl_Reader_ok : dl_Reader.all (dOk prog_5_method_1_code) = true := by decide +kernel
def dl_Texts : List (Nat × Instr × Nat) := [(0, .aload_n 0, 1), (1, .invokespecial 3, 3), (4, .aload_n 0, 1), (5, .bipush 6, 2), (7, .sipush 160, 3), (10, .multianewarray 9 2, 4), (14, .putfield 11, 3), (17, .aload_n 0, 1), (18, .bipush 6, 2), (20, .iconst 3, 1), (21, .multianewarray 9 2, 4), (25, .putfield 18, 3), (28, .aload_n 0, 1), (29, .bipush 6, 2), (31, .newarray .int, 2), (33, .putfield 21, 3), (36, .aload_n 0, 1), (37, .bipush 31, 2), (39, .newarray .int, 2), (41, .putfield 25, 3), (44, .return_, 1)]
set_option maxRecDepth 100000 in
theorem dl_Texts_ok : dl_Texts.all (dOk prog_7_method_1_code) = true := by decide +kernel
def dl_Day : List (Nat × Instr × Nat) := [(0, .aload_n 0, 1), (1, .invokespecial 3, 3), (4, .aload_n 0, 1), (5, .bipush 8, 2), (7, .newarray .int, 2), (9, .putfield 9, 3), (12, .aload_n 0, 1), (13, .iconst 5, 1), (14, .newarray .int, 2), (16, .putfield 15, 3), (19, .aload_n 0, 1), (20, .iconst 5, 1), (21, .newarray .int, 2), (23, .putfield 18, 3), (26, .aload_n 0, 1), (27, .iconst 5, 1), (28, .newarray .int, 2), (30, .putfield 21, 3), (33, .aload_n 0, 1), (34, .iconst 5, 1), (35, .newarray .int, 2), (37, .putfield 24, 3), (40, .aload_n 0, 1), (41, .bipush 24, 2), (43, .newarray .int, 2), (45, .putfield 27, 3), (48, .aload_n 0, 1), (49, .aload_n 1, 1), (50, .putfield 30, 3), (53, .aload_n 0, 1), (54, .aload_n 2, 1), (55, .putfield 33, 3), (58, .aload_n 0, 1), (59, .aload_n 3, 1), (60, .putfield 37, 3), (63, .aload_n 0, 1), (64, .aload 4, 2), (66, .putfield 41, 3), (69, .aload_n 0, 1), (70, .aload 5, 2), (72, .putfield 45, 3), (75, .return_, 1)]
set_option maxRecDepth 100000 in
theorem dl_Day_ok : dl_Day.all (dOk prog_2_method_1_code) = true := by decide +kernel
def dl_Image : List (Nat × Instr × Nat) := [(0, .aload_n 0, 1), (1, .invokespecial 3, 3), (4, .aload_n 0, 1), (5, .bipush 8, 2), (7, .newarray .int, 2), (9, .putfield 9, 3), (12, .aload_n 0, 1), (13, .iconst 5, 1), (14, .newarray .int, 2), (16, .putfield 15, 3), (19, .aload_n 0, 1), (20, .iconst 5, 1), (21, .newarray .int, 2), (23, .putfield 18, 3), (26, .aload_n 0, 1), (27, .iconst 5, 1), (28, .newarray .int, 2), (30, .putfield 21, 3), (33, .aload_n 0, 1), (34, .bipush 6, 2), (36, .newarray .int, 2), (38, .putfield 24, 3), (41, .return_, 1)]
set_option maxRecDepth 100000 in
theorem dl_Image_ok : dl_Image.all (dOk prog_3_method_1_code) = true := by decide +kernel
def dl_Sheets : List (Nat × Instr × Nat) := [(0, .aload_n 0, 1), (1, .invokespecial 3, 3), (4, .aload_n 0, 1), (5, .iconst 4, 1), (6, .newarray .int, 2), (8, .dup, 1), (9, .iconst 0, 1), (10, .iconst (-1), 1), (11, .iastore, 1), (12, .dup, 1), (13, .iconst 1, 1), (14, .iconst (-1), 1), (15, .iastore, 1), (16, .dup, 1), (17, .iconst 2, 1), (18, .iconst (-1), 1), (19, .iastore, 1), (20, .dup, 1), (21, .iconst 3, 1), (22, .iconst (-1), 1), (23, .iastore, 1), (24, .putfield 9, 3), (27, .aload_n 0, 1), (28, .iconst 4, 1), (29, .newarray .int, 2), (31, .putfield 15, 3), (34, .aload_n 0, 1), (35, .iconst 4, 1), (36, .bipush 40, 2), (38, .multianewarray 18 2, 4), (42, .putfield 20, 3), (45, .return_, 1)]
set_option maxRecDepth 100000 in
theorem dl_Sheets_ok : dl_Sheets.all (dOk prog_6_method_1_code) = true := by decide +kernel
def es_Words (tc : Nat → Nat) (h : Nat) : List va_E := [.inr (6, [.ref (h + 1), .ref (h + 2), .ref (h + 3), .int 0]), .inl (tc 0, 10, .inl (fun _ => 0)), .inl (tc 0, 10, .inl (fun _ => 0)), .inl (tc 4, 10, .inr (.inr (.inr (.inr (fun j => some (h + 3 + 1 + j)))))), .inl (tc 0, 6, .inl (fun _ => 0)), .inl (tc 0, 6, .inl (fun _ => 0)), .inl (tc 0, 6, .inl (fun _ => 0)), .inl (tc 0, 6, .inl (fun _ => 0)), .inl (tc 0, 6, .inl (fun _ => 0)), .inl (tc 0, 6, .inl (fun _ => 0)), .inl (tc 0, 6, .inl (fun _ => 0)), .inl (tc 0, 6, .inl (fun _ => 0)), .inl (tc 0, 6, .inl (fun _ => 0)), .inl (tc 0, 6, .inl (fun _ => 0))]
set_option maxHeartbeats 4000000 in
theorem c_Words (l : Launch) (D : va_G) (tc : Nat → Nat) (h : Nat) : Met l ⟨"DearerByUse$Words", "<init>", "()V"⟩ (wsC ⟨"DearerByUse$Words", "<init>", "()V"⟩ prog_8_method_1_code 1) { frames := 2, cells := 13, slots := 90, locals := 40 } (PcC D tc h 6 [.null, .null, .null, .int 0] [] (fun _ => True)) (QcC D h (es_Words tc h)) 13 90 (fun q => h ≤ q) := by
  refine ctorOf rfl rfl (Nat.le_of_ble_eq_true rfl) ?_
  intro p e s m below meth c ls C hl hB _
  have hx := C.1.1
  have hb := C.1.2.1
  have hl : lv_has ls 1 [(0, .ref h)] := hl
  refine lv_aload_n hx hb (dk dl_Words_ok 0 rfl) rfl (lv_at hl 0 rfl) ?_
  refine k_obj C (wk cwL_ok 0 rfl) (wk cwL_ok 1 rfl) (wk cwL_ok 2 rfl) hl.1 (dk dl_Words_ok 1 rfl) (Nat.le_of_ble_eq_true rfl) (Nat.le_of_ble_eq_true rfl) ?_
  refine lv_aload_n hx hb (dk dl_Words_ok 2 rfl) rfl (lv_at hl 0 rfl) ?_
  refine lv_bipush (v := 10) hx hb (dk dl_Words_ok 3 rfl) (by decide) ?_
  refine k_newa (atype := .int) (t0 := 0) (cA := tc 0) (N := 10) (n := 10) (a0 := (10, .inl (fun _ => 0))) C (wk cwL_ok 3 rfl) rfl rfl (by decide) (by decide) (Nat.le_of_ble_eq_true rfl) (Nat.le_of_ble_eq_true rfl) (Nat.le_of_ble_eq_true rfl) hB (h + 1) rfl (dk dl_Words_ok 4 rfl) (fun H hB => ?_)
  have hB : Bx D h s [.inr (6, [.null, .null, .null, .int 0]), .inl (tc 0, 10, .inl (fun _ => 0))] _ _ := hB
  refine k_put (ci := 6) (k := 0) (v := .ref (h + 1)) (ty := .array .int) C (Nat.le_of_ble_eq_true rfl) (Nat.le_of_ble_eq_true rfl) rfl (wk cwL_ok 4 rfl) (tyX6_ok 0 (by decide)) rfl rfl (Nat.le_of_ble_eq_true rfl) hB (dk dl_Words_ok 5 rfl) (fun H locs hB => ?_)
  have hB : Bx D h s [.inr (6, [.ref (h + 1), .null, .null, .int 0]), .inl (tc 0, 10, .inl (fun _ => 0))] _ _ := hB
  refine lv_aload_n hx hb (dk dl_Words_ok 6 rfl) rfl (lv_at hl 0 rfl) ?_
  refine lv_bipush (v := 10) hx hb (dk dl_Words_ok 7 rfl) (by decide) ?_
  refine k_newa (atype := .int) (t0 := 0) (cA := tc 0) (N := 10) (n := 10) (a0 := (10, .inl (fun _ => 0))) C (wk cwL_ok 3 rfl) rfl rfl (by decide) (by decide) (Nat.le_of_ble_eq_true rfl) (Nat.le_of_ble_eq_true rfl) (Nat.le_of_ble_eq_true rfl) hB (h + 2) rfl (dk dl_Words_ok 8 rfl) (fun H hB => ?_)
  have hB : Bx D h s [.inr (6, [.ref (h + 1), .null, .null, .int 0]), .inl (tc 0, 10, .inl (fun _ => 0)), .inl (tc 0, 10, .inl (fun _ => 0))] _ _ := hB
  refine k_put (ci := 6) (k := 1) (v := .ref (h + 2)) (ty := .array .int) C (Nat.le_of_ble_eq_true rfl) (Nat.le_of_ble_eq_true rfl) rfl (wk cwL_ok 5 rfl) (tyX6_ok 1 (by decide)) rfl rfl (Nat.le_of_ble_eq_true rfl) hB (dk dl_Words_ok 9 rfl) (fun H locs hB => ?_)
  have hB : Bx D h s [.inr (6, [.ref (h + 1), .ref (h + 2), .null, .int 0]), .inl (tc 0, 10, .inl (fun _ => 0)), .inl (tc 0, 10, .inl (fun _ => 0))] _ _ := hB
  refine lv_aload_n hx hb (dk dl_Words_ok 10 rfl) rfl (lv_at hl 0 rfl) ?_
  refine lv_bipush (v := 10) hx hb (dk dl_Words_ok 11 rfl) (by decide) ?_
  refine lv_bipush (v := 6) hx hb (dk dl_Words_ok 12 rfl) (by decide) ?_
  refine k_multi (N := 10) (K := 6) (n := 10) (k := 6) C (wk cwL_ok 6 rfl) (wk cwL_ok 3 rfl) (by decide) (by decide) (by decide) (by decide) (Nat.le_of_ble_eq_true rfl) (Nat.le_of_ble_eq_true rfl) (Nat.le_of_ble_eq_true rfl) (Nat.le_of_ble_eq_true rfl) hB (h + 3) rfl (dk dl_Words_ok 13 rfl) (fun H hB => ?_)
  have hB : Bx D h s [.inr (6, [.ref (h + 1), .ref (h + 2), .null, .int 0]), .inl (tc 0, 10, .inl (fun _ => 0)), .inl (tc 0, 10, .inl (fun _ => 0)), .inl (tc 4, 10, .inr (.inr (.inr (.inr (fun j => some (h + 3 + 1 + j)))))), .inl (tc 0, 6, .inl (fun _ => 0)), .inl (tc 0, 6, .inl (fun _ => 0)), .inl (tc 0, 6, .inl (fun _ => 0)), .inl (tc 0, 6, .inl (fun _ => 0)), .inl (tc 0, 6, .inl (fun _ => 0)), .inl (tc 0, 6, .inl (fun _ => 0)), .inl (tc 0, 6, .inl (fun _ => 0)), .inl (tc 0, 6, .inl (fun _ => 0)), .inl (tc 0, 6, .inl (fun _ => 0)), .inl (tc 0, 6, .inl (fun _ => 0))] _ _ := hB
  refine k_put (ci := 6) (k := 2) (v := .ref (h + 3)) (ty := .array (.array .int)) C (Nat.le_of_ble_eq_true rfl) (Nat.le_of_ble_eq_true rfl) rfl (wk cwL_ok 7 rfl) (tyX6_ok 2 (by decide)) rfl rfl (Nat.le_of_ble_eq_true rfl) hB (dk dl_Words_ok 14 rfl) (fun H locs hB => ?_)
  have hB : Bx D h s [.inr (6, [.ref (h + 1), .ref (h + 2), .ref (h + 3), .int 0]), .inl (tc 0, 10, .inl (fun _ => 0)), .inl (tc 0, 10, .inl (fun _ => 0)), .inl (tc 4, 10, .inr (.inr (.inr (.inr (fun j => some (h + 3 + 1 + j)))))), .inl (tc 0, 6, .inl (fun _ => 0)), .inl (tc 0, 6, .inl (fun _ => 0)), .inl (tc 0, 6, .inl (fun _ => 0)), .inl (tc 0, 6, .inl (fun _ => 0)), .inl (tc 0, 6, .inl (fun _ => 0)), .inl (tc 0, 6, .inl (fun _ => 0)), .inl (tc 0, 6, .inl (fun _ => 0)), .inl (tc 0, 6, .inl (fun _ => 0)), .inl (tc 0, 6, .inl (fun _ => 0)), .inl (tc 0, 6, .inl (fun _ => 0))] _ _ := hB
  refine W.widen (k := 13) (n := 90) (Nat.le_of_ble_eq_true rfl) (Nat.le_of_ble_eq_true rfl) ?_
  exact k_ret C hB (dk dl_Words_ok 15 rfl)
def es_Writers (tc : Nat → Nat) (h : Nat) : List va_E := [.inr (7, [.ref (h + 1), .ref (h + 2), .ref (h + 3), .int 0]), .inl (tc 0, 5, .inl (fun _ => 0)), .inl (tc 0, 5, .inl (fun _ => 0)), .inl (tc 0, 5, .inl (fun _ => 0))]
set_option maxHeartbeats 4000000 in
theorem c_Writers (l : Launch) (D : va_G) (tc : Nat → Nat) (h : Nat) : Met l ⟨"DearerByUse$Writers", "<init>", "()V"⟩ (wsC ⟨"DearerByUse$Writers", "<init>", "()V"⟩ prog_9_method_1_code 1) { frames := 2, cells := 3, slots := 15, locals := 40 } (PcC D tc h 7 [.null, .null, .null, .int 0] [] (fun _ => True)) (QcC D h (es_Writers tc h)) 3 15 (fun q => h ≤ q) := by
  refine ctorOf rfl rfl (Nat.le_of_ble_eq_true rfl) ?_
  intro p e s m below meth c ls C hl hB _
  have hx := C.1.1
  have hb := C.1.2.1
  have hl : lv_has ls 1 [(0, .ref h)] := hl
  refine lv_aload_n hx hb (dk dl_Writers_ok 0 rfl) rfl (lv_at hl 0 rfl) ?_
  refine k_obj C (wk cwL_ok 8 rfl) (wk cwL_ok 1 rfl) (wk cwL_ok 2 rfl) hl.1 (dk dl_Writers_ok 1 rfl) (Nat.le_of_ble_eq_true rfl) (Nat.le_of_ble_eq_true rfl) ?_
  refine lv_aload_n hx hb (dk dl_Writers_ok 2 rfl) rfl (lv_at hl 0 rfl) ?_
  refine lv_iconst (v := 5) hx hb (dk dl_Writers_ok 3 rfl) (by decide) ?_
  refine k_newa (atype := .int) (t0 := 0) (cA := tc 0) (N := 5) (n := 5) (a0 := (5, .inl (fun _ => 0))) C (wk cwL_ok 3 rfl) rfl rfl (by decide) (by decide) (Nat.le_of_ble_eq_true rfl) (Nat.le_of_ble_eq_true rfl) (Nat.le_of_ble_eq_true rfl) hB (h + 1) rfl (dk dl_Writers_ok 4 rfl) (fun H hB => ?_)
  have hB : Bx D h s [.inr (7, [.null, .null, .null, .int 0]), .inl (tc 0, 5, .inl (fun _ => 0))] _ _ := hB
  refine k_put (ci := 7) (k := 0) (v := .ref (h + 1)) (ty := .array .int) C (Nat.le_of_ble_eq_true rfl) (Nat.le_of_ble_eq_true rfl) rfl (wk cwL_ok 9 rfl) (tyX7_ok 0 (by decide)) rfl rfl (Nat.le_of_ble_eq_true rfl) hB (dk dl_Writers_ok 5 rfl) (fun H locs hB => ?_)
  have hB : Bx D h s [.inr (7, [.ref (h + 1), .null, .null, .int 0]), .inl (tc 0, 5, .inl (fun _ => 0))] _ _ := hB
  refine lv_aload_n hx hb (dk dl_Writers_ok 6 rfl) rfl (lv_at hl 0 rfl) ?_
  refine lv_iconst (v := 5) hx hb (dk dl_Writers_ok 7 rfl) (by decide) ?_
  refine k_newa (atype := .int) (t0 := 0) (cA := tc 0) (N := 5) (n := 5) (a0 := (5, .inl (fun _ => 0))) C (wk cwL_ok 3 rfl) rfl rfl (by decide) (by decide) (Nat.le_of_ble_eq_true rfl) (Nat.le_of_ble_eq_true rfl) (Nat.le_of_ble_eq_true rfl) hB (h + 2) rfl (dk dl_Writers_ok 8 rfl) (fun H hB => ?_)
  have hB : Bx D h s [.inr (7, [.ref (h + 1), .null, .null, .int 0]), .inl (tc 0, 5, .inl (fun _ => 0)), .inl (tc 0, 5, .inl (fun _ => 0))] _ _ := hB
  refine k_put (ci := 7) (k := 1) (v := .ref (h + 2)) (ty := .array .int) C (Nat.le_of_ble_eq_true rfl) (Nat.le_of_ble_eq_true rfl) rfl (wk cwL_ok 10 rfl) (tyX7_ok 1 (by decide)) rfl rfl (Nat.le_of_ble_eq_true rfl) hB (dk dl_Writers_ok 9 rfl) (fun H locs hB => ?_)
  have hB : Bx D h s [.inr (7, [.ref (h + 1), .ref (h + 2), .null, .int 0]), .inl (tc 0, 5, .inl (fun _ => 0)), .inl (tc 0, 5, .inl (fun _ => 0))] _ _ := hB
  refine lv_aload_n hx hb (dk dl_Writers_ok 10 rfl) rfl (lv_at hl 0 rfl) ?_
  refine lv_iconst (v := 5) hx hb (dk dl_Writers_ok 11 rfl) (by decide) ?_
  refine k_newa (atype := .int) (t0 := 0) (cA := tc 0) (N := 5) (n := 5) (a0 := (5, .inl (fun _ => 0))) C (wk cwL_ok 3 rfl) rfl rfl (by decide) (by decide) (Nat.le_of_ble_eq_true rfl) (Nat.le_of_ble_eq_true rfl) (Nat.le_of_ble_eq_true rfl) hB (h + 3) rfl (dk dl_Writers_ok 12 rfl) (fun H hB => ?_)
  have hB : Bx D h s [.inr (7, [.ref (h + 1), .ref (h + 2), .null, .int 0]), .inl (tc 0, 5, .inl (fun _ => 0)), .inl (tc 0, 5, .inl (fun _ => 0)), .inl (tc 0, 5, .inl (fun _ => 0))] _ _ := hB
  refine k_put (ci := 7) (k := 2) (v := .ref (h + 3)) (ty := .array .int) C (Nat.le_of_ble_eq_true rfl) (Nat.le_of_ble_eq_true rfl) rfl (wk cwL_ok 11 rfl) (tyX7_ok 2 (by decide)) rfl rfl (Nat.le_of_ble_eq_true rfl) hB (dk dl_Writers_ok 13 rfl) (fun H locs hB => ?_)
  have hB : Bx D h s [.inr (7, [.ref (h + 1), .ref (h + 2), .ref (h + 3), .int 0]), .inl (tc 0, 5, .inl (fun _ => 0)), .inl (tc 0, 5, .inl (fun _ => 0)), .inl (tc 0, 5, .inl (fun _ => 0))] _ _ := hB
  refine W.widen (k := 3) (n := 15) (Nat.le_of_ble_eq_true rfl) (Nat.le_of_ble_eq_true rfl) ?_
  exact k_ret C hB (dk dl_Writers_ok 14 rfl)
def es_Laws (tc : Nat → Nat) (h : Nat) : List va_E := [.inr (2, [.ref (h + 1), .ref (h + 2), .int 0, .int 0]), .inl (tc 0, 6, .inl (fun _ => 0)), .inl (tc 0, 6, .inl (fun _ => 0))]
set_option maxHeartbeats 4000000 in
theorem c_Laws (l : Launch) (D : va_G) (tc : Nat → Nat) (h : Nat) : Met l ⟨"DearerByUse$Laws", "<init>", "()V"⟩ (wsC ⟨"DearerByUse$Laws", "<init>", "()V"⟩ prog_4_method_1_code 1) { frames := 2, cells := 2, slots := 12, locals := 40 } (PcC D tc h 2 [.null, .null, .int 0, .int 0] [] (fun _ => True)) (QcC D h (es_Laws tc h)) 2 12 (fun q => h ≤ q) := by
  refine ctorOf rfl rfl (Nat.le_of_ble_eq_true rfl) ?_
  intro p e s m below meth c ls C hl hB _
  have hx := C.1.1
  have hb := C.1.2.1
  have hl : lv_has ls 1 [(0, .ref h)] := hl
  refine lv_aload_n hx hb (dk dl_Laws_ok 0 rfl) rfl (lv_at hl 0 rfl) ?_
  refine k_obj C (wk cwL_ok 12 rfl) (wk cwL_ok 1 rfl) (wk cwL_ok 2 rfl) hl.1 (dk dl_Laws_ok 1 rfl) (Nat.le_of_ble_eq_true rfl) (Nat.le_of_ble_eq_true rfl) ?_
  refine lv_aload_n hx hb (dk dl_Laws_ok 2 rfl) rfl (lv_at hl 0 rfl) ?_
  refine lv_bipush (v := 6) hx hb (dk dl_Laws_ok 3 rfl) (by decide) ?_
  refine k_newa (atype := .int) (t0 := 0) (cA := tc 0) (N := 6) (n := 6) (a0 := (6, .inl (fun _ => 0))) C (wk cwL_ok 3 rfl) rfl rfl (by decide) (by decide) (Nat.le_of_ble_eq_true rfl) (Nat.le_of_ble_eq_true rfl) (Nat.le_of_ble_eq_true rfl) hB (h + 1) rfl (dk dl_Laws_ok 4 rfl) (fun H hB => ?_)
  have hB : Bx D h s [.inr (2, [.null, .null, .int 0, .int 0]), .inl (tc 0, 6, .inl (fun _ => 0))] _ _ := hB
  refine k_put (ci := 2) (k := 0) (v := .ref (h + 1)) (ty := .array .int) C (Nat.le_of_ble_eq_true rfl) (Nat.le_of_ble_eq_true rfl) rfl (wk cwL_ok 13 rfl) (tyX2_ok 0 (by decide)) rfl rfl (Nat.le_of_ble_eq_true rfl) hB (dk dl_Laws_ok 5 rfl) (fun H locs hB => ?_)
  have hB : Bx D h s [.inr (2, [.ref (h + 1), .null, .int 0, .int 0]), .inl (tc 0, 6, .inl (fun _ => 0))] _ _ := hB
  refine lv_aload_n hx hb (dk dl_Laws_ok 6 rfl) rfl (lv_at hl 0 rfl) ?_
  refine lv_bipush (v := 6) hx hb (dk dl_Laws_ok 7 rfl) (by decide) ?_
  refine k_newa (atype := .int) (t0 := 0) (cA := tc 0) (N := 6) (n := 6) (a0 := (6, .inl (fun _ => 0))) C (wk cwL_ok 3 rfl) rfl rfl (by decide) (by decide) (Nat.le_of_ble_eq_true rfl) (Nat.le_of_ble_eq_true rfl) (Nat.le_of_ble_eq_true rfl) hB (h + 2) rfl (dk dl_Laws_ok 8 rfl) (fun H hB => ?_)
  have hB : Bx D h s [.inr (2, [.ref (h + 1), .null, .int 0, .int 0]), .inl (tc 0, 6, .inl (fun _ => 0)), .inl (tc 0, 6, .inl (fun _ => 0))] _ _ := hB
  refine k_put (ci := 2) (k := 1) (v := .ref (h + 2)) (ty := .array .int) C (Nat.le_of_ble_eq_true rfl) (Nat.le_of_ble_eq_true rfl) rfl (wk cwL_ok 14 rfl) (tyX2_ok 1 (by decide)) rfl rfl (Nat.le_of_ble_eq_true rfl) hB (dk dl_Laws_ok 9 rfl) (fun H locs hB => ?_)
  have hB : Bx D h s [.inr (2, [.ref (h + 1), .ref (h + 2), .int 0, .int 0]), .inl (tc 0, 6, .inl (fun _ => 0)), .inl (tc 0, 6, .inl (fun _ => 0))] _ _ := hB
  refine W.widen (k := 2) (n := 12) (Nat.le_of_ble_eq_true rfl) (Nat.le_of_ble_eq_true rfl) ?_
  exact k_ret C hB (dk dl_Laws_ok 10 rfl)
def es_Reader (tc : Nat → Nat) (h : Nat) : List va_E := [.inr (3, [.ref (h + 1), .int 0, .ref (h + 2), .ref (h + 3), .int 0, .int 0, .int 0, .int 0, .int 0, .int 0]), .inl (tc 0, 160, .inl (fun _ => 0)), .inl (tc 0, 160, .inl (fun _ => 0)), .inl (tc 0, 3, .inl (fun _ => 0))]
set_option maxHeartbeats 4000000 in
theorem c_Reader (l : Launch) (D : va_G) (tc : Nat → Nat) (h : Nat) : Met l ⟨"DearerByUse$Reader", "<init>", "()V"⟩ (wsC ⟨"DearerByUse$Reader", "<init>", "()V"⟩ prog_5_method_1_code 1) { frames := 2, cells := 3, slots := 323, locals := 40 } (PcC D tc h 3 [.null, .int 0, .null, .null, .int 0, .int 0, .int 0, .int 0, .int 0, .int 0] [] (fun _ => True)) (QcC D h (es_Reader tc h)) 3 323 (fun q => h ≤ q) := by
  refine ctorOf rfl rfl (Nat.le_of_ble_eq_true rfl) ?_
  intro p e s m below meth c ls C hl hB _
  have hx := C.1.1
  have hb := C.1.2.1
  have hl : lv_has ls 1 [(0, .ref h)] := hl
  refine lv_aload_n hx hb (dk dl_Reader_ok 0 rfl) rfl (lv_at hl 0 rfl) ?_
  refine k_obj C (wk cwL_ok 15 rfl) (wk cwL_ok 1 rfl) (wk cwL_ok 2 rfl) hl.1 (dk dl_Reader_ok 1 rfl) (Nat.le_of_ble_eq_true rfl) (Nat.le_of_ble_eq_true rfl) ?_
  refine lv_aload_n hx hb (dk dl_Reader_ok 2 rfl) rfl (lv_at hl 0 rfl) ?_
  refine lv_sipush (v := 160) hx hb (dk dl_Reader_ok 3 rfl) (by decide) ?_
  refine k_newa (atype := .int) (t0 := 0) (cA := tc 0) (N := 160) (n := 160) (a0 := (160, .inl (fun _ => 0))) C (wk cwL_ok 3 rfl) rfl rfl (by decide) (by decide) (Nat.le_of_ble_eq_true rfl) (Nat.le_of_ble_eq_true rfl) (Nat.le_of_ble_eq_true rfl) hB (h + 1) rfl (dk dl_Reader_ok 4 rfl) (fun H hB => ?_)
  have hB : Bx D h s [.inr (3, [.null, .int 0, .null, .null, .int 0, .int 0, .int 0, .int 0, .int 0, .int 0]), .inl (tc 0, 160, .inl (fun _ => 0))] _ _ := hB
  refine k_put (ci := 3) (k := 0) (v := .ref (h + 1)) (ty := .array .int) C (Nat.le_of_ble_eq_true rfl) (Nat.le_of_ble_eq_true rfl) rfl (wk cwL_ok 16 rfl) (tyX3_ok 0 (by decide)) rfl rfl (Nat.le_of_ble_eq_true rfl) hB (dk dl_Reader_ok 5 rfl) (fun H locs hB => ?_)
  have hB : Bx D h s [.inr (3, [.ref (h + 1), .int 0, .null, .null, .int 0, .int 0, .int 0, .int 0, .int 0, .int 0]), .inl (tc 0, 160, .inl (fun _ => 0))] _ _ := hB
  refine lv_aload_n hx hb (dk dl_Reader_ok 6 rfl) rfl (lv_at hl 0 rfl) ?_
  refine lv_sipush (v := 160) hx hb (dk dl_Reader_ok 7 rfl) (by decide) ?_
  refine k_newa (atype := .int) (t0 := 0) (cA := tc 0) (N := 160) (n := 160) (a0 := (160, .inl (fun _ => 0))) C (wk cwL_ok 3 rfl) rfl rfl (by decide) (by decide) (Nat.le_of_ble_eq_true rfl) (Nat.le_of_ble_eq_true rfl) (Nat.le_of_ble_eq_true rfl) hB (h + 2) rfl (dk dl_Reader_ok 8 rfl) (fun H hB => ?_)
  have hB : Bx D h s [.inr (3, [.ref (h + 1), .int 0, .null, .null, .int 0, .int 0, .int 0, .int 0, .int 0, .int 0]), .inl (tc 0, 160, .inl (fun _ => 0)), .inl (tc 0, 160, .inl (fun _ => 0))] _ _ := hB
  refine k_put (ci := 3) (k := 2) (v := .ref (h + 2)) (ty := .array .int) C (Nat.le_of_ble_eq_true rfl) (Nat.le_of_ble_eq_true rfl) rfl (wk cwL_ok 17 rfl) (tyX3_ok 2 (by decide)) rfl rfl (Nat.le_of_ble_eq_true rfl) hB (dk dl_Reader_ok 9 rfl) (fun H locs hB => ?_)
  have hB : Bx D h s [.inr (3, [.ref (h + 1), .int 0, .ref (h + 2), .null, .int 0, .int 0, .int 0, .int 0, .int 0, .int 0]), .inl (tc 0, 160, .inl (fun _ => 0)), .inl (tc 0, 160, .inl (fun _ => 0))] _ _ := hB
  refine lv_aload_n hx hb (dk dl_Reader_ok 10 rfl) rfl (lv_at hl 0 rfl) ?_
  refine lv_iconst (v := 3) hx hb (dk dl_Reader_ok 11 rfl) (by decide) ?_
  refine k_newa (atype := .int) (t0 := 0) (cA := tc 0) (N := 3) (n := 3) (a0 := (3, .inl (fun _ => 0))) C (wk cwL_ok 3 rfl) rfl rfl (by decide) (by decide) (Nat.le_of_ble_eq_true rfl) (Nat.le_of_ble_eq_true rfl) (Nat.le_of_ble_eq_true rfl) hB (h + 3) rfl (dk dl_Reader_ok 12 rfl) (fun H hB => ?_)
  have hB : Bx D h s [.inr (3, [.ref (h + 1), .int 0, .ref (h + 2), .null, .int 0, .int 0, .int 0, .int 0, .int 0, .int 0]), .inl (tc 0, 160, .inl (fun _ => 0)), .inl (tc 0, 160, .inl (fun _ => 0)), .inl (tc 0, 3, .inl (fun _ => 0))] _ _ := hB
  refine k_put (ci := 3) (k := 3) (v := .ref (h + 3)) (ty := .array .int) C (Nat.le_of_ble_eq_true rfl) (Nat.le_of_ble_eq_true rfl) rfl (wk cwL_ok 18 rfl) (tyX3_ok 3 (by decide)) rfl rfl (Nat.le_of_ble_eq_true rfl) hB (dk dl_Reader_ok 13 rfl) (fun H locs hB => ?_)
  have hB : Bx D h s [.inr (3, [.ref (h + 1), .int 0, .ref (h + 2), .ref (h + 3), .int 0, .int 0, .int 0, .int 0, .int 0, .int 0]), .inl (tc 0, 160, .inl (fun _ => 0)), .inl (tc 0, 160, .inl (fun _ => 0)), .inl (tc 0, 3, .inl (fun _ => 0))] _ _ := hB
  refine W.widen (k := 3) (n := 323) (Nat.le_of_ble_eq_true rfl) (Nat.le_of_ble_eq_true rfl) ?_
  exact k_ret C hB (dk dl_Reader_ok 14 rfl)
def es_Texts (tc : Nat → Nat) (h : Nat) : List va_E := [.inr (5, [.ref (h + 1), .ref (h + 8), .ref (h + 15), .ref (h + 16), .int 0, .int 0]), .inl (tc 4, 6, .inr (.inr (.inr (.inr (fun j => some (h + 1 + 1 + j)))))), .inl (tc 0, 160, .inl (fun _ => 0)), .inl (tc 0, 160, .inl (fun _ => 0)), .inl (tc 0, 160, .inl (fun _ => 0)), .inl (tc 0, 160, .inl (fun _ => 0)), .inl (tc 0, 160, .inl (fun _ => 0)), .inl (tc 0, 160, .inl (fun _ => 0)), .inl (tc 4, 6, .inr (.inr (.inr (.inr (fun j => some (h + 8 + 1 + j)))))), .inl (tc 0, 3, .inl (fun _ => 0)), .inl (tc 0, 3, .inl (fun _ => 0)), .inl (tc 0, 3, .inl (fun _ => 0)), .inl (tc 0, 3, .inl (fun _ => 0)), .inl (tc 0, 3, .inl (fun _ => 0)), .inl (tc 0, 3, .inl (fun _ => 0)), .inl (tc 0, 6, .inl (fun _ => 0)), .inl (tc 0, 31, .inl (fun _ => 0))]
set_option maxHeartbeats 4000000 in
theorem c_Texts (l : Launch) (D : va_G) (tc : Nat → Nat) (h : Nat) : Met l ⟨"DearerByUse$Texts", "<init>", "()V"⟩ (wsC ⟨"DearerByUse$Texts", "<init>", "()V"⟩ prog_7_method_1_code 1) { frames := 2, cells := 16, slots := 1027, locals := 40 } (PcC D tc h 5 [.null, .null, .null, .null, .int 0, .int 0] [] (fun _ => True)) (QcC D h (es_Texts tc h)) 16 1027 (fun q => h ≤ q) := by
  refine ctorOf rfl rfl (Nat.le_of_ble_eq_true rfl) ?_
  intro p e s m below meth c ls C hl hB _
  have hx := C.1.1
  have hb := C.1.2.1
  have hl : lv_has ls 1 [(0, .ref h)] := hl
  refine lv_aload_n hx hb (dk dl_Texts_ok 0 rfl) rfl (lv_at hl 0 rfl) ?_
  refine k_obj C (wk cwL_ok 19 rfl) (wk cwL_ok 1 rfl) (wk cwL_ok 2 rfl) hl.1 (dk dl_Texts_ok 1 rfl) (Nat.le_of_ble_eq_true rfl) (Nat.le_of_ble_eq_true rfl) ?_
  refine lv_aload_n hx hb (dk dl_Texts_ok 2 rfl) rfl (lv_at hl 0 rfl) ?_
  refine lv_bipush (v := 6) hx hb (dk dl_Texts_ok 3 rfl) (by decide) ?_
  refine lv_sipush (v := 160) hx hb (dk dl_Texts_ok 4 rfl) (by decide) ?_
  refine k_multi (N := 6) (K := 160) (n := 6) (k := 160) C (wk cwL_ok 20 rfl) (wk cwL_ok 3 rfl) (by decide) (by decide) (by decide) (by decide) (Nat.le_of_ble_eq_true rfl) (Nat.le_of_ble_eq_true rfl) (Nat.le_of_ble_eq_true rfl) (Nat.le_of_ble_eq_true rfl) hB (h + 1) rfl (dk dl_Texts_ok 5 rfl) (fun H hB => ?_)
  have hB : Bx D h s [.inr (5, [.null, .null, .null, .null, .int 0, .int 0]), .inl (tc 4, 6, .inr (.inr (.inr (.inr (fun j => some (h + 1 + 1 + j)))))), .inl (tc 0, 160, .inl (fun _ => 0)), .inl (tc 0, 160, .inl (fun _ => 0)), .inl (tc 0, 160, .inl (fun _ => 0)), .inl (tc 0, 160, .inl (fun _ => 0)), .inl (tc 0, 160, .inl (fun _ => 0)), .inl (tc 0, 160, .inl (fun _ => 0))] _ _ := hB
  refine k_put (ci := 5) (k := 0) (v := .ref (h + 1)) (ty := .array (.array .int)) C (Nat.le_of_ble_eq_true rfl) (Nat.le_of_ble_eq_true rfl) rfl (wk cwL_ok 21 rfl) (tyX5_ok 0 (by decide)) rfl rfl (Nat.le_of_ble_eq_true rfl) hB (dk dl_Texts_ok 6 rfl) (fun H locs hB => ?_)
  have hB : Bx D h s [.inr (5, [.ref (h + 1), .null, .null, .null, .int 0, .int 0]), .inl (tc 4, 6, .inr (.inr (.inr (.inr (fun j => some (h + 1 + 1 + j)))))), .inl (tc 0, 160, .inl (fun _ => 0)), .inl (tc 0, 160, .inl (fun _ => 0)), .inl (tc 0, 160, .inl (fun _ => 0)), .inl (tc 0, 160, .inl (fun _ => 0)), .inl (tc 0, 160, .inl (fun _ => 0)), .inl (tc 0, 160, .inl (fun _ => 0))] _ _ := hB
  refine lv_aload_n hx hb (dk dl_Texts_ok 7 rfl) rfl (lv_at hl 0 rfl) ?_
  refine lv_bipush (v := 6) hx hb (dk dl_Texts_ok 8 rfl) (by decide) ?_
  refine lv_iconst (v := 3) hx hb (dk dl_Texts_ok 9 rfl) (by decide) ?_
  refine k_multi (N := 6) (K := 3) (n := 6) (k := 3) C (wk cwL_ok 20 rfl) (wk cwL_ok 3 rfl) (by decide) (by decide) (by decide) (by decide) (Nat.le_of_ble_eq_true rfl) (Nat.le_of_ble_eq_true rfl) (Nat.le_of_ble_eq_true rfl) (Nat.le_of_ble_eq_true rfl) hB (h + 8) rfl (dk dl_Texts_ok 10 rfl) (fun H hB => ?_)
  have hB : Bx D h s [.inr (5, [.ref (h + 1), .null, .null, .null, .int 0, .int 0]), .inl (tc 4, 6, .inr (.inr (.inr (.inr (fun j => some (h + 1 + 1 + j)))))), .inl (tc 0, 160, .inl (fun _ => 0)), .inl (tc 0, 160, .inl (fun _ => 0)), .inl (tc 0, 160, .inl (fun _ => 0)), .inl (tc 0, 160, .inl (fun _ => 0)), .inl (tc 0, 160, .inl (fun _ => 0)), .inl (tc 0, 160, .inl (fun _ => 0)), .inl (tc 4, 6, .inr (.inr (.inr (.inr (fun j => some (h + 8 + 1 + j)))))), .inl (tc 0, 3, .inl (fun _ => 0)), .inl (tc 0, 3, .inl (fun _ => 0)), .inl (tc 0, 3, .inl (fun _ => 0)), .inl (tc 0, 3, .inl (fun _ => 0)), .inl (tc 0, 3, .inl (fun _ => 0)), .inl (tc 0, 3, .inl (fun _ => 0))] _ _ := hB
  refine k_put (ci := 5) (k := 1) (v := .ref (h + 8)) (ty := .array (.array .int)) C (Nat.le_of_ble_eq_true rfl) (Nat.le_of_ble_eq_true rfl) rfl (wk cwL_ok 22 rfl) (tyX5_ok 1 (by decide)) rfl rfl (Nat.le_of_ble_eq_true rfl) hB (dk dl_Texts_ok 11 rfl) (fun H locs hB => ?_)
  have hB : Bx D h s [.inr (5, [.ref (h + 1), .ref (h + 8), .null, .null, .int 0, .int 0]), .inl (tc 4, 6, .inr (.inr (.inr (.inr (fun j => some (h + 1 + 1 + j)))))), .inl (tc 0, 160, .inl (fun _ => 0)), .inl (tc 0, 160, .inl (fun _ => 0)), .inl (tc 0, 160, .inl (fun _ => 0)), .inl (tc 0, 160, .inl (fun _ => 0)), .inl (tc 0, 160, .inl (fun _ => 0)), .inl (tc 0, 160, .inl (fun _ => 0)), .inl (tc 4, 6, .inr (.inr (.inr (.inr (fun j => some (h + 8 + 1 + j)))))), .inl (tc 0, 3, .inl (fun _ => 0)), .inl (tc 0, 3, .inl (fun _ => 0)), .inl (tc 0, 3, .inl (fun _ => 0)), .inl (tc 0, 3, .inl (fun _ => 0)), .inl (tc 0, 3, .inl (fun _ => 0)), .inl (tc 0, 3, .inl (fun _ => 0))] _ _ := hB
  refine lv_aload_n hx hb (dk dl_Texts_ok 12 rfl) rfl (lv_at hl 0 rfl) ?_
  refine lv_bipush (v := 6) hx hb (dk dl_Texts_ok 13 rfl) (by decide) ?_
  refine k_newa (atype := .int) (t0 := 0) (cA := tc 0) (N := 6) (n := 6) (a0 := (6, .inl (fun _ => 0))) C (wk cwL_ok 3 rfl) rfl rfl (by decide) (by decide) (Nat.le_of_ble_eq_true rfl) (Nat.le_of_ble_eq_true rfl) (Nat.le_of_ble_eq_true rfl) hB (h + 15) rfl (dk dl_Texts_ok 14 rfl) (fun H hB => ?_)
  have hB : Bx D h s [.inr (5, [.ref (h + 1), .ref (h + 8), .null, .null, .int 0, .int 0]), .inl (tc 4, 6, .inr (.inr (.inr (.inr (fun j => some (h + 1 + 1 + j)))))), .inl (tc 0, 160, .inl (fun _ => 0)), .inl (tc 0, 160, .inl (fun _ => 0)), .inl (tc 0, 160, .inl (fun _ => 0)), .inl (tc 0, 160, .inl (fun _ => 0)), .inl (tc 0, 160, .inl (fun _ => 0)), .inl (tc 0, 160, .inl (fun _ => 0)), .inl (tc 4, 6, .inr (.inr (.inr (.inr (fun j => some (h + 8 + 1 + j)))))), .inl (tc 0, 3, .inl (fun _ => 0)), .inl (tc 0, 3, .inl (fun _ => 0)), .inl (tc 0, 3, .inl (fun _ => 0)), .inl (tc 0, 3, .inl (fun _ => 0)), .inl (tc 0, 3, .inl (fun _ => 0)), .inl (tc 0, 3, .inl (fun _ => 0)), .inl (tc 0, 6, .inl (fun _ => 0))] _ _ := hB
  refine k_put (ci := 5) (k := 2) (v := .ref (h + 15)) (ty := .array .int) C (Nat.le_of_ble_eq_true rfl) (Nat.le_of_ble_eq_true rfl) rfl (wk cwL_ok 23 rfl) (tyX5_ok 2 (by decide)) rfl rfl (Nat.le_of_ble_eq_true rfl) hB (dk dl_Texts_ok 15 rfl) (fun H locs hB => ?_)
  have hB : Bx D h s [.inr (5, [.ref (h + 1), .ref (h + 8), .ref (h + 15), .null, .int 0, .int 0]), .inl (tc 4, 6, .inr (.inr (.inr (.inr (fun j => some (h + 1 + 1 + j)))))), .inl (tc 0, 160, .inl (fun _ => 0)), .inl (tc 0, 160, .inl (fun _ => 0)), .inl (tc 0, 160, .inl (fun _ => 0)), .inl (tc 0, 160, .inl (fun _ => 0)), .inl (tc 0, 160, .inl (fun _ => 0)), .inl (tc 0, 160, .inl (fun _ => 0)), .inl (tc 4, 6, .inr (.inr (.inr (.inr (fun j => some (h + 8 + 1 + j)))))), .inl (tc 0, 3, .inl (fun _ => 0)), .inl (tc 0, 3, .inl (fun _ => 0)), .inl (tc 0, 3, .inl (fun _ => 0)), .inl (tc 0, 3, .inl (fun _ => 0)), .inl (tc 0, 3, .inl (fun _ => 0)), .inl (tc 0, 3, .inl (fun _ => 0)), .inl (tc 0, 6, .inl (fun _ => 0))] _ _ := hB
  refine lv_aload_n hx hb (dk dl_Texts_ok 16 rfl) rfl (lv_at hl 0 rfl) ?_
  refine lv_bipush (v := 31) hx hb (dk dl_Texts_ok 17 rfl) (by decide) ?_
  refine k_newa (atype := .int) (t0 := 0) (cA := tc 0) (N := 31) (n := 31) (a0 := (31, .inl (fun _ => 0))) C (wk cwL_ok 3 rfl) rfl rfl (by decide) (by decide) (Nat.le_of_ble_eq_true rfl) (Nat.le_of_ble_eq_true rfl) (Nat.le_of_ble_eq_true rfl) hB (h + 16) rfl (dk dl_Texts_ok 18 rfl) (fun H hB => ?_)
  have hB : Bx D h s [.inr (5, [.ref (h + 1), .ref (h + 8), .ref (h + 15), .null, .int 0, .int 0]), .inl (tc 4, 6, .inr (.inr (.inr (.inr (fun j => some (h + 1 + 1 + j)))))), .inl (tc 0, 160, .inl (fun _ => 0)), .inl (tc 0, 160, .inl (fun _ => 0)), .inl (tc 0, 160, .inl (fun _ => 0)), .inl (tc 0, 160, .inl (fun _ => 0)), .inl (tc 0, 160, .inl (fun _ => 0)), .inl (tc 0, 160, .inl (fun _ => 0)), .inl (tc 4, 6, .inr (.inr (.inr (.inr (fun j => some (h + 8 + 1 + j)))))), .inl (tc 0, 3, .inl (fun _ => 0)), .inl (tc 0, 3, .inl (fun _ => 0)), .inl (tc 0, 3, .inl (fun _ => 0)), .inl (tc 0, 3, .inl (fun _ => 0)), .inl (tc 0, 3, .inl (fun _ => 0)), .inl (tc 0, 3, .inl (fun _ => 0)), .inl (tc 0, 6, .inl (fun _ => 0)), .inl (tc 0, 31, .inl (fun _ => 0))] _ _ := hB
  refine k_put (ci := 5) (k := 3) (v := .ref (h + 16)) (ty := .array .int) C (Nat.le_of_ble_eq_true rfl) (Nat.le_of_ble_eq_true rfl) rfl (wk cwL_ok 24 rfl) (tyX5_ok 3 (by decide)) rfl rfl (Nat.le_of_ble_eq_true rfl) hB (dk dl_Texts_ok 19 rfl) (fun H locs hB => ?_)
  have hB : Bx D h s [.inr (5, [.ref (h + 1), .ref (h + 8), .ref (h + 15), .ref (h + 16), .int 0, .int 0]), .inl (tc 4, 6, .inr (.inr (.inr (.inr (fun j => some (h + 1 + 1 + j)))))), .inl (tc 0, 160, .inl (fun _ => 0)), .inl (tc 0, 160, .inl (fun _ => 0)), .inl (tc 0, 160, .inl (fun _ => 0)), .inl (tc 0, 160, .inl (fun _ => 0)), .inl (tc 0, 160, .inl (fun _ => 0)), .inl (tc 0, 160, .inl (fun _ => 0)), .inl (tc 4, 6, .inr (.inr (.inr (.inr (fun j => some (h + 8 + 1 + j)))))), .inl (tc 0, 3, .inl (fun _ => 0)), .inl (tc 0, 3, .inl (fun _ => 0)), .inl (tc 0, 3, .inl (fun _ => 0)), .inl (tc 0, 3, .inl (fun _ => 0)), .inl (tc 0, 3, .inl (fun _ => 0)), .inl (tc 0, 3, .inl (fun _ => 0)), .inl (tc 0, 6, .inl (fun _ => 0)), .inl (tc 0, 31, .inl (fun _ => 0))] _ _ := hB
  refine W.widen (k := 16) (n := 1027) (Nat.le_of_ble_eq_true rfl) (Nat.le_of_ble_eq_true rfl) ?_
  exact k_ret C hB (dk dl_Texts_ok 20 rfl)
def es_Day (tc : Nat → Nat) (h a1 a2 a3 a4 a5 : Nat) : List va_E := [.inr (0, [.ref a1, .ref a2, .ref a3, .ref a4, .ref a5, .ref (h + 1), .ref (h + 2), .int 0, .ref (h + 3), .ref (h + 4), .ref (h + 5), .ref (h + 6)]), .inl (tc 0, 8, .inl (fun _ => 0)), .inl (tc 0, 5, .inl (fun _ => 0)), .inl (tc 0, 5, .inl (fun _ => 0)), .inl (tc 0, 5, .inl (fun _ => 0)), .inl (tc 0, 5, .inl (fun _ => 0)), .inl (tc 0, 24, .inl (fun _ => 0))]
set_option maxHeartbeats 4000000 in
theorem c_Day (l : Launch) (D : va_G) (tc : Nat → Nat) (h a1 a2 a3 a4 a5 : Nat) : Met l ⟨"DearerByUse$Day", "<init>", "([ILDearerByUse$Words;LDearerByUse$Writers;LDearerByUse$Laws;LDearerByUse$Texts;)V"⟩ (wsC ⟨"DearerByUse$Day", "<init>", "([ILDearerByUse$Words;LDearerByUse$Writers;LDearerByUse$Laws;LDearerByUse$Texts;)V"⟩ prog_2_method_1_code 6) { frames := 2, cells := 6, slots := 52, locals := 40 } (PcC D tc h 0 [.null, .null, .null, .null, .null, .null, .null, .int 0, .null, .null, .null, .null] [.ref a1, .ref a2, .ref a3, .ref a4, .ref a5] (fun _ => True)) (QcC D h (es_Day tc h a1 a2 a3 a4 a5)) 6 52 (fun q => h ≤ q) := by
  refine ctorOf rfl rfl (Nat.le_of_ble_eq_true rfl) ?_
  intro p e s m below meth c ls C hl hB _
  have hx := C.1.1
  have hb := C.1.2.1
  have hl : lv_has ls 6 [(0, .ref h), (1, .ref a1), (2, .ref a2), (3, .ref a3), (4, .ref a4), (5, .ref a5)] := hl
  refine lv_aload_n hx hb (dk dl_Day_ok 0 rfl) rfl (lv_at hl 0 rfl) ?_
  refine k_obj C (wk cwL_ok 25 rfl) (wk cwL_ok 1 rfl) (wk cwL_ok 2 rfl) hl.1 (dk dl_Day_ok 1 rfl) (Nat.le_of_ble_eq_true rfl) (Nat.le_of_ble_eq_true rfl) ?_
  refine lv_aload_n hx hb (dk dl_Day_ok 2 rfl) rfl (lv_at hl 0 rfl) ?_
  refine lv_bipush (v := 8) hx hb (dk dl_Day_ok 3 rfl) (by decide) ?_
  refine k_newa (atype := .int) (t0 := 0) (cA := tc 0) (N := 8) (n := 8) (a0 := (8, .inl (fun _ => 0))) C (wk cwL_ok 3 rfl) rfl rfl (by decide) (by decide) (Nat.le_of_ble_eq_true rfl) (Nat.le_of_ble_eq_true rfl) (Nat.le_of_ble_eq_true rfl) hB (h + 1) rfl (dk dl_Day_ok 4 rfl) (fun H hB => ?_)
  have hB : Bx D h s [.inr (0, [.null, .null, .null, .null, .null, .null, .null, .int 0, .null, .null, .null, .null]), .inl (tc 0, 8, .inl (fun _ => 0))] _ _ := hB
  refine k_put (ci := 0) (k := 5) (v := .ref (h + 1)) (ty := .array .int) C (Nat.le_of_ble_eq_true rfl) (Nat.le_of_ble_eq_true rfl) rfl (wk cwL_ok 26 rfl) (tyX0_ok 5 (by decide)) rfl rfl (Nat.le_of_ble_eq_true rfl) hB (dk dl_Day_ok 5 rfl) (fun H locs hB => ?_)
  have hB : Bx D h s [.inr (0, [.null, .null, .null, .null, .null, .ref (h + 1), .null, .int 0, .null, .null, .null, .null]), .inl (tc 0, 8, .inl (fun _ => 0))] _ _ := hB
  refine lv_aload_n hx hb (dk dl_Day_ok 6 rfl) rfl (lv_at hl 0 rfl) ?_
  refine lv_iconst (v := 5) hx hb (dk dl_Day_ok 7 rfl) (by decide) ?_
  refine k_newa (atype := .int) (t0 := 0) (cA := tc 0) (N := 5) (n := 5) (a0 := (5, .inl (fun _ => 0))) C (wk cwL_ok 3 rfl) rfl rfl (by decide) (by decide) (Nat.le_of_ble_eq_true rfl) (Nat.le_of_ble_eq_true rfl) (Nat.le_of_ble_eq_true rfl) hB (h + 2) rfl (dk dl_Day_ok 8 rfl) (fun H hB => ?_)
  have hB : Bx D h s [.inr (0, [.null, .null, .null, .null, .null, .ref (h + 1), .null, .int 0, .null, .null, .null, .null]), .inl (tc 0, 8, .inl (fun _ => 0)), .inl (tc 0, 5, .inl (fun _ => 0))] _ _ := hB
  refine k_put (ci := 0) (k := 6) (v := .ref (h + 2)) (ty := .array .int) C (Nat.le_of_ble_eq_true rfl) (Nat.le_of_ble_eq_true rfl) rfl (wk cwL_ok 27 rfl) (tyX0_ok 6 (by decide)) rfl rfl (Nat.le_of_ble_eq_true rfl) hB (dk dl_Day_ok 9 rfl) (fun H locs hB => ?_)
  have hB : Bx D h s [.inr (0, [.null, .null, .null, .null, .null, .ref (h + 1), .ref (h + 2), .int 0, .null, .null, .null, .null]), .inl (tc 0, 8, .inl (fun _ => 0)), .inl (tc 0, 5, .inl (fun _ => 0))] _ _ := hB
  refine lv_aload_n hx hb (dk dl_Day_ok 10 rfl) rfl (lv_at hl 0 rfl) ?_
  refine lv_iconst (v := 5) hx hb (dk dl_Day_ok 11 rfl) (by decide) ?_
  refine k_newa (atype := .int) (t0 := 0) (cA := tc 0) (N := 5) (n := 5) (a0 := (5, .inl (fun _ => 0))) C (wk cwL_ok 3 rfl) rfl rfl (by decide) (by decide) (Nat.le_of_ble_eq_true rfl) (Nat.le_of_ble_eq_true rfl) (Nat.le_of_ble_eq_true rfl) hB (h + 3) rfl (dk dl_Day_ok 12 rfl) (fun H hB => ?_)
  have hB : Bx D h s [.inr (0, [.null, .null, .null, .null, .null, .ref (h + 1), .ref (h + 2), .int 0, .null, .null, .null, .null]), .inl (tc 0, 8, .inl (fun _ => 0)), .inl (tc 0, 5, .inl (fun _ => 0)), .inl (tc 0, 5, .inl (fun _ => 0))] _ _ := hB
  refine k_put (ci := 0) (k := 8) (v := .ref (h + 3)) (ty := .array .int) C (Nat.le_of_ble_eq_true rfl) (Nat.le_of_ble_eq_true rfl) rfl (wk cwL_ok 28 rfl) (tyX0_ok 8 (by decide)) rfl rfl (Nat.le_of_ble_eq_true rfl) hB (dk dl_Day_ok 13 rfl) (fun H locs hB => ?_)
  have hB : Bx D h s [.inr (0, [.null, .null, .null, .null, .null, .ref (h + 1), .ref (h + 2), .int 0, .ref (h + 3), .null, .null, .null]), .inl (tc 0, 8, .inl (fun _ => 0)), .inl (tc 0, 5, .inl (fun _ => 0)), .inl (tc 0, 5, .inl (fun _ => 0))] _ _ := hB
  refine lv_aload_n hx hb (dk dl_Day_ok 14 rfl) rfl (lv_at hl 0 rfl) ?_
  refine lv_iconst (v := 5) hx hb (dk dl_Day_ok 15 rfl) (by decide) ?_
  refine k_newa (atype := .int) (t0 := 0) (cA := tc 0) (N := 5) (n := 5) (a0 := (5, .inl (fun _ => 0))) C (wk cwL_ok 3 rfl) rfl rfl (by decide) (by decide) (Nat.le_of_ble_eq_true rfl) (Nat.le_of_ble_eq_true rfl) (Nat.le_of_ble_eq_true rfl) hB (h + 4) rfl (dk dl_Day_ok 16 rfl) (fun H hB => ?_)
  have hB : Bx D h s [.inr (0, [.null, .null, .null, .null, .null, .ref (h + 1), .ref (h + 2), .int 0, .ref (h + 3), .null, .null, .null]), .inl (tc 0, 8, .inl (fun _ => 0)), .inl (tc 0, 5, .inl (fun _ => 0)), .inl (tc 0, 5, .inl (fun _ => 0)), .inl (tc 0, 5, .inl (fun _ => 0))] _ _ := hB
  refine k_put (ci := 0) (k := 9) (v := .ref (h + 4)) (ty := .array .int) C (Nat.le_of_ble_eq_true rfl) (Nat.le_of_ble_eq_true rfl) rfl (wk cwL_ok 29 rfl) (tyX0_ok 9 (by decide)) rfl rfl (Nat.le_of_ble_eq_true rfl) hB (dk dl_Day_ok 17 rfl) (fun H locs hB => ?_)
  have hB : Bx D h s [.inr (0, [.null, .null, .null, .null, .null, .ref (h + 1), .ref (h + 2), .int 0, .ref (h + 3), .ref (h + 4), .null, .null]), .inl (tc 0, 8, .inl (fun _ => 0)), .inl (tc 0, 5, .inl (fun _ => 0)), .inl (tc 0, 5, .inl (fun _ => 0)), .inl (tc 0, 5, .inl (fun _ => 0))] _ _ := hB
  refine lv_aload_n hx hb (dk dl_Day_ok 18 rfl) rfl (lv_at hl 0 rfl) ?_
  refine lv_iconst (v := 5) hx hb (dk dl_Day_ok 19 rfl) (by decide) ?_
  refine k_newa (atype := .int) (t0 := 0) (cA := tc 0) (N := 5) (n := 5) (a0 := (5, .inl (fun _ => 0))) C (wk cwL_ok 3 rfl) rfl rfl (by decide) (by decide) (Nat.le_of_ble_eq_true rfl) (Nat.le_of_ble_eq_true rfl) (Nat.le_of_ble_eq_true rfl) hB (h + 5) rfl (dk dl_Day_ok 20 rfl) (fun H hB => ?_)
  have hB : Bx D h s [.inr (0, [.null, .null, .null, .null, .null, .ref (h + 1), .ref (h + 2), .int 0, .ref (h + 3), .ref (h + 4), .null, .null]), .inl (tc 0, 8, .inl (fun _ => 0)), .inl (tc 0, 5, .inl (fun _ => 0)), .inl (tc 0, 5, .inl (fun _ => 0)), .inl (tc 0, 5, .inl (fun _ => 0)), .inl (tc 0, 5, .inl (fun _ => 0))] _ _ := hB
  refine k_put (ci := 0) (k := 10) (v := .ref (h + 5)) (ty := .array .int) C (Nat.le_of_ble_eq_true rfl) (Nat.le_of_ble_eq_true rfl) rfl (wk cwL_ok 30 rfl) (tyX0_ok 10 (by decide)) rfl rfl (Nat.le_of_ble_eq_true rfl) hB (dk dl_Day_ok 21 rfl) (fun H locs hB => ?_)
  have hB : Bx D h s [.inr (0, [.null, .null, .null, .null, .null, .ref (h + 1), .ref (h + 2), .int 0, .ref (h + 3), .ref (h + 4), .ref (h + 5), .null]), .inl (tc 0, 8, .inl (fun _ => 0)), .inl (tc 0, 5, .inl (fun _ => 0)), .inl (tc 0, 5, .inl (fun _ => 0)), .inl (tc 0, 5, .inl (fun _ => 0)), .inl (tc 0, 5, .inl (fun _ => 0))] _ _ := hB
  refine lv_aload_n hx hb (dk dl_Day_ok 22 rfl) rfl (lv_at hl 0 rfl) ?_
  refine lv_bipush (v := 24) hx hb (dk dl_Day_ok 23 rfl) (by decide) ?_
  refine k_newa (atype := .int) (t0 := 0) (cA := tc 0) (N := 24) (n := 24) (a0 := (24, .inl (fun _ => 0))) C (wk cwL_ok 3 rfl) rfl rfl (by decide) (by decide) (Nat.le_of_ble_eq_true rfl) (Nat.le_of_ble_eq_true rfl) (Nat.le_of_ble_eq_true rfl) hB (h + 6) rfl (dk dl_Day_ok 24 rfl) (fun H hB => ?_)
  have hB : Bx D h s [.inr (0, [.null, .null, .null, .null, .null, .ref (h + 1), .ref (h + 2), .int 0, .ref (h + 3), .ref (h + 4), .ref (h + 5), .null]), .inl (tc 0, 8, .inl (fun _ => 0)), .inl (tc 0, 5, .inl (fun _ => 0)), .inl (tc 0, 5, .inl (fun _ => 0)), .inl (tc 0, 5, .inl (fun _ => 0)), .inl (tc 0, 5, .inl (fun _ => 0)), .inl (tc 0, 24, .inl (fun _ => 0))] _ _ := hB
  refine k_put (ci := 0) (k := 11) (v := .ref (h + 6)) (ty := .array .int) C (Nat.le_of_ble_eq_true rfl) (Nat.le_of_ble_eq_true rfl) rfl (wk cwL_ok 31 rfl) (tyX0_ok 11 (by decide)) rfl rfl (Nat.le_of_ble_eq_true rfl) hB (dk dl_Day_ok 25 rfl) (fun H locs hB => ?_)
  have hB : Bx D h s [.inr (0, [.null, .null, .null, .null, .null, .ref (h + 1), .ref (h + 2), .int 0, .ref (h + 3), .ref (h + 4), .ref (h + 5), .ref (h + 6)]), .inl (tc 0, 8, .inl (fun _ => 0)), .inl (tc 0, 5, .inl (fun _ => 0)), .inl (tc 0, 5, .inl (fun _ => 0)), .inl (tc 0, 5, .inl (fun _ => 0)), .inl (tc 0, 5, .inl (fun _ => 0)), .inl (tc 0, 24, .inl (fun _ => 0))] _ _ := hB
  refine lv_aload_n hx hb (dk dl_Day_ok 26 rfl) rfl (lv_at hl 0 rfl) ?_
  refine lv_aload_n hx hb (dk dl_Day_ok 27 rfl) rfl (lv_at hl 1 rfl) ?_
  refine k_put (ci := 0) (k := 0) (v := .ref a1) (ty := .array .int) C (Nat.le_of_ble_eq_true rfl) (Nat.le_of_ble_eq_true rfl) rfl (wk cwL_ok 32 rfl) (tyX0_ok 0 (by decide)) rfl rfl (Nat.le_of_ble_eq_true rfl) hB (dk dl_Day_ok 28 rfl) (fun H locs hB => ?_)
  have hB : Bx D h s [.inr (0, [.ref a1, .null, .null, .null, .null, .ref (h + 1), .ref (h + 2), .int 0, .ref (h + 3), .ref (h + 4), .ref (h + 5), .ref (h + 6)]), .inl (tc 0, 8, .inl (fun _ => 0)), .inl (tc 0, 5, .inl (fun _ => 0)), .inl (tc 0, 5, .inl (fun _ => 0)), .inl (tc 0, 5, .inl (fun _ => 0)), .inl (tc 0, 5, .inl (fun _ => 0)), .inl (tc 0, 24, .inl (fun _ => 0))] _ _ := hB
  refine lv_aload_n hx hb (dk dl_Day_ok 29 rfl) rfl (lv_at hl 0 rfl) ?_
  refine lv_aload_n hx hb (dk dl_Day_ok 30 rfl) rfl (lv_at hl 2 rfl) ?_
  refine k_put (ci := 0) (k := 1) (v := .ref a2) (ty := .object "DearerByUse$Words") C (Nat.le_of_ble_eq_true rfl) (Nat.le_of_ble_eq_true rfl) rfl (wk cwL_ok 33 rfl) (tyX0_ok 1 (by decide)) rfl rfl (Nat.le_of_ble_eq_true rfl) hB (dk dl_Day_ok 31 rfl) (fun H locs hB => ?_)
  have hB : Bx D h s [.inr (0, [.ref a1, .ref a2, .null, .null, .null, .ref (h + 1), .ref (h + 2), .int 0, .ref (h + 3), .ref (h + 4), .ref (h + 5), .ref (h + 6)]), .inl (tc 0, 8, .inl (fun _ => 0)), .inl (tc 0, 5, .inl (fun _ => 0)), .inl (tc 0, 5, .inl (fun _ => 0)), .inl (tc 0, 5, .inl (fun _ => 0)), .inl (tc 0, 5, .inl (fun _ => 0)), .inl (tc 0, 24, .inl (fun _ => 0))] _ _ := hB
  refine lv_aload_n hx hb (dk dl_Day_ok 32 rfl) rfl (lv_at hl 0 rfl) ?_
  refine lv_aload_n hx hb (dk dl_Day_ok 33 rfl) rfl (lv_at hl 3 rfl) ?_
  refine k_put (ci := 0) (k := 2) (v := .ref a3) (ty := .object "DearerByUse$Writers") C (Nat.le_of_ble_eq_true rfl) (Nat.le_of_ble_eq_true rfl) rfl (wk cwL_ok 34 rfl) (tyX0_ok 2 (by decide)) rfl rfl (Nat.le_of_ble_eq_true rfl) hB (dk dl_Day_ok 34 rfl) (fun H locs hB => ?_)
  have hB : Bx D h s [.inr (0, [.ref a1, .ref a2, .ref a3, .null, .null, .ref (h + 1), .ref (h + 2), .int 0, .ref (h + 3), .ref (h + 4), .ref (h + 5), .ref (h + 6)]), .inl (tc 0, 8, .inl (fun _ => 0)), .inl (tc 0, 5, .inl (fun _ => 0)), .inl (tc 0, 5, .inl (fun _ => 0)), .inl (tc 0, 5, .inl (fun _ => 0)), .inl (tc 0, 5, .inl (fun _ => 0)), .inl (tc 0, 24, .inl (fun _ => 0))] _ _ := hB
  refine lv_aload_n hx hb (dk dl_Day_ok 35 rfl) rfl (lv_at hl 0 rfl) ?_
  refine lv_aload hx hb (dk dl_Day_ok 36 rfl) (lv_at hl 4 rfl) ?_
  refine k_put (ci := 0) (k := 3) (v := .ref a4) (ty := .object "DearerByUse$Laws") C (Nat.le_of_ble_eq_true rfl) (Nat.le_of_ble_eq_true rfl) rfl (wk cwL_ok 35 rfl) (tyX0_ok 3 (by decide)) rfl rfl (Nat.le_of_ble_eq_true rfl) hB (dk dl_Day_ok 37 rfl) (fun H locs hB => ?_)
  have hB : Bx D h s [.inr (0, [.ref a1, .ref a2, .ref a3, .ref a4, .null, .ref (h + 1), .ref (h + 2), .int 0, .ref (h + 3), .ref (h + 4), .ref (h + 5), .ref (h + 6)]), .inl (tc 0, 8, .inl (fun _ => 0)), .inl (tc 0, 5, .inl (fun _ => 0)), .inl (tc 0, 5, .inl (fun _ => 0)), .inl (tc 0, 5, .inl (fun _ => 0)), .inl (tc 0, 5, .inl (fun _ => 0)), .inl (tc 0, 24, .inl (fun _ => 0))] _ _ := hB
  refine lv_aload_n hx hb (dk dl_Day_ok 38 rfl) rfl (lv_at hl 0 rfl) ?_
  refine lv_aload hx hb (dk dl_Day_ok 39 rfl) (lv_at hl 5 rfl) ?_
  refine k_put (ci := 0) (k := 4) (v := .ref a5) (ty := .object "DearerByUse$Texts") C (Nat.le_of_ble_eq_true rfl) (Nat.le_of_ble_eq_true rfl) rfl (wk cwL_ok 36 rfl) (tyX0_ok 4 (by decide)) rfl rfl (Nat.le_of_ble_eq_true rfl) hB (dk dl_Day_ok 40 rfl) (fun H locs hB => ?_)
  have hB : Bx D h s [.inr (0, [.ref a1, .ref a2, .ref a3, .ref a4, .ref a5, .ref (h + 1), .ref (h + 2), .int 0, .ref (h + 3), .ref (h + 4), .ref (h + 5), .ref (h + 6)]), .inl (tc 0, 8, .inl (fun _ => 0)), .inl (tc 0, 5, .inl (fun _ => 0)), .inl (tc 0, 5, .inl (fun _ => 0)), .inl (tc 0, 5, .inl (fun _ => 0)), .inl (tc 0, 5, .inl (fun _ => 0)), .inl (tc 0, 24, .inl (fun _ => 0))] _ _ := hB
  refine W.widen (k := 6) (n := 52) (Nat.le_of_ble_eq_true rfl) (Nat.le_of_ble_eq_true rfl) ?_
  exact k_ret C hB (dk dl_Day_ok 41 rfl)
def es_Image (tc : Nat → Nat) (h : Nat) : List va_E := [.inr (1, [.int 0, .ref (h + 1), .int 0, .int 0, .ref (h + 2), .ref (h + 3), .ref (h + 4), .int 0, .ref (h + 5), .int 0, .int 0]), .inl (tc 0, 8, .inl (fun _ => 0)), .inl (tc 0, 5, .inl (fun _ => 0)), .inl (tc 0, 5, .inl (fun _ => 0)), .inl (tc 0, 5, .inl (fun _ => 0)), .inl (tc 0, 6, .inl (fun _ => 0))]
set_option maxHeartbeats 4000000 in
theorem c_Image (l : Launch) (D : va_G) (tc : Nat → Nat) (h : Nat) : Met l ⟨"DearerByUse$Image", "<init>", "()V"⟩ (wsC ⟨"DearerByUse$Image", "<init>", "()V"⟩ prog_3_method_1_code 1) { frames := 2, cells := 5, slots := 29, locals := 40 } (PcC D tc h 1 [.int 0, .null, .int 0, .int 0, .null, .null, .null, .int 0, .null, .int 0, .int 0] [] (fun _ => True)) (QcC D h (es_Image tc h)) 5 29 (fun q => h ≤ q) := by
  refine ctorOf rfl rfl (Nat.le_of_ble_eq_true rfl) ?_
  intro p e s m below meth c ls C hl hB _
  have hx := C.1.1
  have hb := C.1.2.1
  have hl : lv_has ls 1 [(0, .ref h)] := hl
  refine lv_aload_n hx hb (dk dl_Image_ok 0 rfl) rfl (lv_at hl 0 rfl) ?_
  refine k_obj C (wk cwL_ok 37 rfl) (wk cwL_ok 1 rfl) (wk cwL_ok 2 rfl) hl.1 (dk dl_Image_ok 1 rfl) (Nat.le_of_ble_eq_true rfl) (Nat.le_of_ble_eq_true rfl) ?_
  refine lv_aload_n hx hb (dk dl_Image_ok 2 rfl) rfl (lv_at hl 0 rfl) ?_
  refine lv_bipush (v := 8) hx hb (dk dl_Image_ok 3 rfl) (by decide) ?_
  refine k_newa (atype := .int) (t0 := 0) (cA := tc 0) (N := 8) (n := 8) (a0 := (8, .inl (fun _ => 0))) C (wk cwL_ok 3 rfl) rfl rfl (by decide) (by decide) (Nat.le_of_ble_eq_true rfl) (Nat.le_of_ble_eq_true rfl) (Nat.le_of_ble_eq_true rfl) hB (h + 1) rfl (dk dl_Image_ok 4 rfl) (fun H hB => ?_)
  have hB : Bx D h s [.inr (1, [.int 0, .null, .int 0, .int 0, .null, .null, .null, .int 0, .null, .int 0, .int 0]), .inl (tc 0, 8, .inl (fun _ => 0))] _ _ := hB
  refine k_put (ci := 1) (k := 1) (v := .ref (h + 1)) (ty := .array .int) C (Nat.le_of_ble_eq_true rfl) (Nat.le_of_ble_eq_true rfl) rfl (wk cwL_ok 38 rfl) (tyX1_ok 1 (by decide)) rfl rfl (Nat.le_of_ble_eq_true rfl) hB (dk dl_Image_ok 5 rfl) (fun H locs hB => ?_)
  have hB : Bx D h s [.inr (1, [.int 0, .ref (h + 1), .int 0, .int 0, .null, .null, .null, .int 0, .null, .int 0, .int 0]), .inl (tc 0, 8, .inl (fun _ => 0))] _ _ := hB
  refine lv_aload_n hx hb (dk dl_Image_ok 6 rfl) rfl (lv_at hl 0 rfl) ?_
  refine lv_iconst (v := 5) hx hb (dk dl_Image_ok 7 rfl) (by decide) ?_
  refine k_newa (atype := .int) (t0 := 0) (cA := tc 0) (N := 5) (n := 5) (a0 := (5, .inl (fun _ => 0))) C (wk cwL_ok 3 rfl) rfl rfl (by decide) (by decide) (Nat.le_of_ble_eq_true rfl) (Nat.le_of_ble_eq_true rfl) (Nat.le_of_ble_eq_true rfl) hB (h + 2) rfl (dk dl_Image_ok 8 rfl) (fun H hB => ?_)
  have hB : Bx D h s [.inr (1, [.int 0, .ref (h + 1), .int 0, .int 0, .null, .null, .null, .int 0, .null, .int 0, .int 0]), .inl (tc 0, 8, .inl (fun _ => 0)), .inl (tc 0, 5, .inl (fun _ => 0))] _ _ := hB
  refine k_put (ci := 1) (k := 4) (v := .ref (h + 2)) (ty := .array .int) C (Nat.le_of_ble_eq_true rfl) (Nat.le_of_ble_eq_true rfl) rfl (wk cwL_ok 39 rfl) (tyX1_ok 4 (by decide)) rfl rfl (Nat.le_of_ble_eq_true rfl) hB (dk dl_Image_ok 9 rfl) (fun H locs hB => ?_)
  have hB : Bx D h s [.inr (1, [.int 0, .ref (h + 1), .int 0, .int 0, .ref (h + 2), .null, .null, .int 0, .null, .int 0, .int 0]), .inl (tc 0, 8, .inl (fun _ => 0)), .inl (tc 0, 5, .inl (fun _ => 0))] _ _ := hB
  refine lv_aload_n hx hb (dk dl_Image_ok 10 rfl) rfl (lv_at hl 0 rfl) ?_
  refine lv_iconst (v := 5) hx hb (dk dl_Image_ok 11 rfl) (by decide) ?_
  refine k_newa (atype := .int) (t0 := 0) (cA := tc 0) (N := 5) (n := 5) (a0 := (5, .inl (fun _ => 0))) C (wk cwL_ok 3 rfl) rfl rfl (by decide) (by decide) (Nat.le_of_ble_eq_true rfl) (Nat.le_of_ble_eq_true rfl) (Nat.le_of_ble_eq_true rfl) hB (h + 3) rfl (dk dl_Image_ok 12 rfl) (fun H hB => ?_)
  have hB : Bx D h s [.inr (1, [.int 0, .ref (h + 1), .int 0, .int 0, .ref (h + 2), .null, .null, .int 0, .null, .int 0, .int 0]), .inl (tc 0, 8, .inl (fun _ => 0)), .inl (tc 0, 5, .inl (fun _ => 0)), .inl (tc 0, 5, .inl (fun _ => 0))] _ _ := hB
  refine k_put (ci := 1) (k := 5) (v := .ref (h + 3)) (ty := .array .int) C (Nat.le_of_ble_eq_true rfl) (Nat.le_of_ble_eq_true rfl) rfl (wk cwL_ok 40 rfl) (tyX1_ok 5 (by decide)) rfl rfl (Nat.le_of_ble_eq_true rfl) hB (dk dl_Image_ok 13 rfl) (fun H locs hB => ?_)
  have hB : Bx D h s [.inr (1, [.int 0, .ref (h + 1), .int 0, .int 0, .ref (h + 2), .ref (h + 3), .null, .int 0, .null, .int 0, .int 0]), .inl (tc 0, 8, .inl (fun _ => 0)), .inl (tc 0, 5, .inl (fun _ => 0)), .inl (tc 0, 5, .inl (fun _ => 0))] _ _ := hB
  refine lv_aload_n hx hb (dk dl_Image_ok 14 rfl) rfl (lv_at hl 0 rfl) ?_
  refine lv_iconst (v := 5) hx hb (dk dl_Image_ok 15 rfl) (by decide) ?_
  refine k_newa (atype := .int) (t0 := 0) (cA := tc 0) (N := 5) (n := 5) (a0 := (5, .inl (fun _ => 0))) C (wk cwL_ok 3 rfl) rfl rfl (by decide) (by decide) (Nat.le_of_ble_eq_true rfl) (Nat.le_of_ble_eq_true rfl) (Nat.le_of_ble_eq_true rfl) hB (h + 4) rfl (dk dl_Image_ok 16 rfl) (fun H hB => ?_)
  have hB : Bx D h s [.inr (1, [.int 0, .ref (h + 1), .int 0, .int 0, .ref (h + 2), .ref (h + 3), .null, .int 0, .null, .int 0, .int 0]), .inl (tc 0, 8, .inl (fun _ => 0)), .inl (tc 0, 5, .inl (fun _ => 0)), .inl (tc 0, 5, .inl (fun _ => 0)), .inl (tc 0, 5, .inl (fun _ => 0))] _ _ := hB
  refine k_put (ci := 1) (k := 6) (v := .ref (h + 4)) (ty := .array .int) C (Nat.le_of_ble_eq_true rfl) (Nat.le_of_ble_eq_true rfl) rfl (wk cwL_ok 41 rfl) (tyX1_ok 6 (by decide)) rfl rfl (Nat.le_of_ble_eq_true rfl) hB (dk dl_Image_ok 17 rfl) (fun H locs hB => ?_)
  have hB : Bx D h s [.inr (1, [.int 0, .ref (h + 1), .int 0, .int 0, .ref (h + 2), .ref (h + 3), .ref (h + 4), .int 0, .null, .int 0, .int 0]), .inl (tc 0, 8, .inl (fun _ => 0)), .inl (tc 0, 5, .inl (fun _ => 0)), .inl (tc 0, 5, .inl (fun _ => 0)), .inl (tc 0, 5, .inl (fun _ => 0))] _ _ := hB
  refine lv_aload_n hx hb (dk dl_Image_ok 18 rfl) rfl (lv_at hl 0 rfl) ?_
  refine lv_bipush (v := 6) hx hb (dk dl_Image_ok 19 rfl) (by decide) ?_
  refine k_newa (atype := .int) (t0 := 0) (cA := tc 0) (N := 6) (n := 6) (a0 := (6, .inl (fun _ => 0))) C (wk cwL_ok 3 rfl) rfl rfl (by decide) (by decide) (Nat.le_of_ble_eq_true rfl) (Nat.le_of_ble_eq_true rfl) (Nat.le_of_ble_eq_true rfl) hB (h + 5) rfl (dk dl_Image_ok 20 rfl) (fun H hB => ?_)
  have hB : Bx D h s [.inr (1, [.int 0, .ref (h + 1), .int 0, .int 0, .ref (h + 2), .ref (h + 3), .ref (h + 4), .int 0, .null, .int 0, .int 0]), .inl (tc 0, 8, .inl (fun _ => 0)), .inl (tc 0, 5, .inl (fun _ => 0)), .inl (tc 0, 5, .inl (fun _ => 0)), .inl (tc 0, 5, .inl (fun _ => 0)), .inl (tc 0, 6, .inl (fun _ => 0))] _ _ := hB
  refine k_put (ci := 1) (k := 8) (v := .ref (h + 5)) (ty := .array .int) C (Nat.le_of_ble_eq_true rfl) (Nat.le_of_ble_eq_true rfl) rfl (wk cwL_ok 42 rfl) (tyX1_ok 8 (by decide)) rfl rfl (Nat.le_of_ble_eq_true rfl) hB (dk dl_Image_ok 21 rfl) (fun H locs hB => ?_)
  have hB : Bx D h s [.inr (1, [.int 0, .ref (h + 1), .int 0, .int 0, .ref (h + 2), .ref (h + 3), .ref (h + 4), .int 0, .ref (h + 5), .int 0, .int 0]), .inl (tc 0, 8, .inl (fun _ => 0)), .inl (tc 0, 5, .inl (fun _ => 0)), .inl (tc 0, 5, .inl (fun _ => 0)), .inl (tc 0, 5, .inl (fun _ => 0)), .inl (tc 0, 6, .inl (fun _ => 0))] _ _ := hB
  refine W.widen (k := 5) (n := 29) (Nat.le_of_ble_eq_true rfl) (Nat.le_of_ble_eq_true rfl) ?_
  exact k_ret C hB (dk dl_Image_ok 22 rfl)
def es_Sheets (tc : Nat → Nat) (h : Nat) : List va_E := [.inr (4, [.ref (h + 1), .ref (h + 2), .ref (h + 3)]), .inl (tc 0, 4, .inl (fun _ => -1)), .inl (tc 0, 4, .inl (fun _ => 0)), .inl (tc 4, 4, .inr (.inr (.inr (.inr (fun j => some (h + 3 + 1 + j)))))), .inl (tc 0, 40, .inl (fun _ => 0)), .inl (tc 0, 40, .inl (fun _ => 0)), .inl (tc 0, 40, .inl (fun _ => 0)), .inl (tc 0, 40, .inl (fun _ => 0))]
set_option maxHeartbeats 4000000 in
theorem c_Sheets (l : Launch) (D : va_G) (tc : Nat → Nat) (h : Nat) : Met l ⟨"DearerByUse$Sheets", "<init>", "()V"⟩ (wsC ⟨"DearerByUse$Sheets", "<init>", "()V"⟩ prog_6_method_1_code 1) { frames := 2, cells := 7, slots := 172, locals := 40 } (PcC D tc h 4 [.null, .null, .null] [] (fun _ => True)) (QcC D h (es_Sheets tc h)) 7 172 (fun q => h ≤ q) := by
  refine ctorOf rfl rfl (Nat.le_of_ble_eq_true rfl) ?_
  intro p e s m below meth c ls C hl hB _
  have hx := C.1.1
  have hb := C.1.2.1
  have hl : lv_has ls 1 [(0, .ref h)] := hl
  refine lv_aload_n hx hb (dk dl_Sheets_ok 0 rfl) rfl (lv_at hl 0 rfl) ?_
  refine k_obj C (wk cwL_ok 43 rfl) (wk cwL_ok 1 rfl) (wk cwL_ok 2 rfl) hl.1 (dk dl_Sheets_ok 1 rfl) (Nat.le_of_ble_eq_true rfl) (Nat.le_of_ble_eq_true rfl) ?_
  refine lv_aload_n hx hb (dk dl_Sheets_ok 2 rfl) rfl (lv_at hl 0 rfl) ?_
  refine lv_iconst (v := 4) hx hb (dk dl_Sheets_ok 3 rfl) (by decide) ?_
  refine k_newa (atype := .int) (t0 := 0) (cA := tc 0) (N := 4) (n := 4) (a0 := (4, .inl (fun _ => 0))) C (wk cwL_ok 3 rfl) rfl rfl (by decide) (by decide) (Nat.le_of_ble_eq_true rfl) (Nat.le_of_ble_eq_true rfl) (Nat.le_of_ble_eq_true rfl) hB (h + 1) rfl (dk dl_Sheets_ok 4 rfl) (fun H hB => ?_)
  have hB : Bx D h s [.inr (4, [.null, .null, .null]), .inl (tc 0, 4, .inl (fun _ => 0))] _ _ := hB
  refine lv_dup hx hb (dk dl_Sheets_ok 5 rfl) rfl ?_
  refine lv_iconst (v := 0) hx hb (dk dl_Sheets_ok 6 rfl) (by decide) ?_
  refine lv_iconst (v := -1) hx hb (dk dl_Sheets_ok 7 rfl) (by decide) ?_
  refine k_iast (j := 1) (n := 4) (i := 0) (y := -1) C rfl (by unfold vp_in; decide) hB (h + 1) rfl (dk dl_Sheets_ok 8 rfl) (fun H locs hB => ?_)
  have hB : Bx D h s [.inr (4, [.null, .null, .null]), .inl (tc 0, 4, .inl (upd (fun _ => 0) 0 (-1)))] _ _ := hB
  refine lv_dup hx hb (dk dl_Sheets_ok 9 rfl) rfl ?_
  refine lv_iconst (v := 1) hx hb (dk dl_Sheets_ok 10 rfl) (by decide) ?_
  refine lv_iconst (v := -1) hx hb (dk dl_Sheets_ok 11 rfl) (by decide) ?_
  refine k_iast (j := 1) (n := 4) (i := 1) (y := -1) C rfl (by unfold vp_in; decide) hB (h + 1) rfl (dk dl_Sheets_ok 12 rfl) (fun H locs hB => ?_)
  have hB : Bx D h s [.inr (4, [.null, .null, .null]), .inl (tc 0, 4, .inl (upd (upd (fun _ => 0) 0 (-1)) 1 (-1)))] _ _ := hB
  refine lv_dup hx hb (dk dl_Sheets_ok 13 rfl) rfl ?_
  refine lv_iconst (v := 2) hx hb (dk dl_Sheets_ok 14 rfl) (by decide) ?_
  refine lv_iconst (v := -1) hx hb (dk dl_Sheets_ok 15 rfl) (by decide) ?_
  refine k_iast (j := 1) (n := 4) (i := 2) (y := -1) C rfl (by unfold vp_in; decide) hB (h + 1) rfl (dk dl_Sheets_ok 16 rfl) (fun H locs hB => ?_)
  have hB : Bx D h s [.inr (4, [.null, .null, .null]), .inl (tc 0, 4, .inl (upd (upd (upd (fun _ => 0) 0 (-1)) 1 (-1)) 2 (-1)))] _ _ := hB
  refine lv_dup hx hb (dk dl_Sheets_ok 17 rfl) rfl ?_
  refine lv_iconst (v := 3) hx hb (dk dl_Sheets_ok 18 rfl) (by decide) ?_
  refine lv_iconst (v := -1) hx hb (dk dl_Sheets_ok 19 rfl) (by decide) ?_
  refine k_iast (j := 1) (n := 4) (i := 3) (y := -1) C rfl (by unfold vp_in; decide) hB (h + 1) rfl (dk dl_Sheets_ok 20 rfl) (fun H locs hB => ?_)
  have hB : Bx D h s [.inr (4, [.null, .null, .null]), .inl (tc 0, 4, .inl (upd (upd (upd (upd (fun _ => 0) 0 (-1)) 1 (-1)) 2 (-1)) 3 (-1)))] _ _ := hB
  refine k_put (ci := 4) (k := 0) (v := .ref (h + 1)) (ty := .array .int) C (Nat.le_of_ble_eq_true rfl) (Nat.le_of_ble_eq_true rfl) rfl (wk cwL_ok 44 rfl) (tyX4_ok 0 (by decide)) rfl rfl (Nat.le_of_ble_eq_true rfl) hB (dk dl_Sheets_ok 21 rfl) (fun H locs hB => ?_)
  have hB : Bx D h s [.inr (4, [.ref (h + 1), .null, .null]), .inl (tc 0, 4, .inl (upd (upd (upd (upd (fun _ => 0) 0 (-1)) 1 (-1)) 2 (-1)) 3 (-1)))] _ _ := hB
  refine lv_aload_n hx hb (dk dl_Sheets_ok 22 rfl) rfl (lv_at hl 0 rfl) ?_
  refine lv_iconst (v := 4) hx hb (dk dl_Sheets_ok 23 rfl) (by decide) ?_
  refine k_newa (atype := .int) (t0 := 0) (cA := tc 0) (N := 4) (n := 4) (a0 := (4, .inl (fun _ => 0))) C (wk cwL_ok 3 rfl) rfl rfl (by decide) (by decide) (Nat.le_of_ble_eq_true rfl) (Nat.le_of_ble_eq_true rfl) (Nat.le_of_ble_eq_true rfl) hB (h + 2) rfl (dk dl_Sheets_ok 24 rfl) (fun H hB => ?_)
  have hB : Bx D h s [.inr (4, [.ref (h + 1), .null, .null]), .inl (tc 0, 4, .inl (upd (upd (upd (upd (fun _ => 0) 0 (-1)) 1 (-1)) 2 (-1)) 3 (-1))), .inl (tc 0, 4, .inl (fun _ => 0))] _ _ := hB
  refine k_put (ci := 4) (k := 1) (v := .ref (h + 2)) (ty := .array .int) C (Nat.le_of_ble_eq_true rfl) (Nat.le_of_ble_eq_true rfl) rfl (wk cwL_ok 45 rfl) (tyX4_ok 1 (by decide)) rfl rfl (Nat.le_of_ble_eq_true rfl) hB (dk dl_Sheets_ok 25 rfl) (fun H locs hB => ?_)
  have hB : Bx D h s [.inr (4, [.ref (h + 1), .ref (h + 2), .null]), .inl (tc 0, 4, .inl (upd (upd (upd (upd (fun _ => 0) 0 (-1)) 1 (-1)) 2 (-1)) 3 (-1))), .inl (tc 0, 4, .inl (fun _ => 0))] _ _ := hB
  refine lv_aload_n hx hb (dk dl_Sheets_ok 26 rfl) rfl (lv_at hl 0 rfl) ?_
  refine lv_iconst (v := 4) hx hb (dk dl_Sheets_ok 27 rfl) (by decide) ?_
  refine lv_bipush (v := 40) hx hb (dk dl_Sheets_ok 28 rfl) (by decide) ?_
  refine k_multi (N := 4) (K := 40) (n := 4) (k := 40) C (wk cwL_ok 46 rfl) (wk cwL_ok 3 rfl) (by decide) (by decide) (by decide) (by decide) (Nat.le_of_ble_eq_true rfl) (Nat.le_of_ble_eq_true rfl) (Nat.le_of_ble_eq_true rfl) (Nat.le_of_ble_eq_true rfl) hB (h + 3) rfl (dk dl_Sheets_ok 29 rfl) (fun H hB => ?_)
  have hB : Bx D h s [.inr (4, [.ref (h + 1), .ref (h + 2), .null]), .inl (tc 0, 4, .inl (upd (upd (upd (upd (fun _ => 0) 0 (-1)) 1 (-1)) 2 (-1)) 3 (-1))), .inl (tc 0, 4, .inl (fun _ => 0)), .inl (tc 4, 4, .inr (.inr (.inr (.inr (fun j => some (h + 3 + 1 + j)))))), .inl (tc 0, 40, .inl (fun _ => 0)), .inl (tc 0, 40, .inl (fun _ => 0)), .inl (tc 0, 40, .inl (fun _ => 0)), .inl (tc 0, 40, .inl (fun _ => 0))] _ _ := hB
  refine k_put (ci := 4) (k := 2) (v := .ref (h + 3)) (ty := .array (.array .int)) C (Nat.le_of_ble_eq_true rfl) (Nat.le_of_ble_eq_true rfl) rfl (wk cwL_ok 47 rfl) (tyX4_ok 2 (by decide)) rfl rfl (Nat.le_of_ble_eq_true rfl) hB (dk dl_Sheets_ok 30 rfl) (fun H locs hB => ?_)
  have hB : Bx D h s [.inr (4, [.ref (h + 1), .ref (h + 2), .ref (h + 3)]), .inl (tc 0, 4, .inl (upd (upd (upd (upd (fun _ => 0) 0 (-1)) 1 (-1)) 2 (-1)) 3 (-1))), .inl (tc 0, 4, .inl (fun _ => 0)), .inl (tc 4, 4, .inr (.inr (.inr (.inr (fun j => some (h + 3 + 1 + j)))))), .inl (tc 0, 40, .inl (fun _ => 0)), .inl (tc 0, 40, .inl (fun _ => 0)), .inl (tc 0, 40, .inl (fun _ => 0)), .inl (tc 0, 40, .inl (fun _ => 0))] _ _ := hB
  have hB := hB.cell (j := 1) (a' := (tc 0, 4, .inl (fun _ => -1))) rfl sh4
  have hB : Bx D h s [.inr (4, [.ref (h + 1), .ref (h + 2), .ref (h + 3)]), .inl (tc 0, 4, .inl (fun _ => -1)), .inl (tc 0, 4, .inl (fun _ => 0)), .inl (tc 4, 4, .inr (.inr (.inr (.inr (fun j => some (h + 3 + 1 + j)))))), .inl (tc 0, 40, .inl (fun _ => 0)), .inl (tc 0, 40, .inl (fun _ => 0)), .inl (tc 0, 40, .inl (fun _ => 0)), .inl (tc 0, 40, .inl (fun _ => 0))] _ _ := hB
  refine W.widen (k := 7) (n := 172) (Nat.le_of_ble_eq_true rfl) (Nat.le_of_ble_eq_true rfl) ?_
  exact k_ret C hB (dk dl_Sheets_ok 31 rfl)
