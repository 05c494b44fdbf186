/-! ===== the reference's constructor ===== -/
theorem spellC {μ : Mem} {i : Nat} {a b c e f g u v w : Int32} (hi : i < 5) (ha : nI (8 * i) = a) (e0 : txtB (8 * i) = b) (e1 : txtB (8 * i + 1) = c) (e2 : txtB (8 * i + 2) = e) (e3 : txtB (8 * i + 3) = f) (e4 : txtB (8 * i + 4) = g) (e5 : txtB (8 * i + 5) = u) (e6 : txtB (8 * i + 6) = v) (e7 : txtB (8 * i + 7) = w) : Call 1 y_M_spell [.ref 0, .int a, .int b, .int c, .int e, .int f, .int g, .int u, .int v, .int w] μ (fun _ μ' => μ' = spl μ i) := by
  subst ha
  exact M_spell_ok (d := 0) hi e0 e1 e2 e3 e4 e5 e6 e7 rfl
def adM (h : Nat) : Nat → Nat := fun k => h + k
def QcM (D : va_G) (tc : Nat → Nat) (h : Nat) : Array Value → State → Outcome → State → Prop := fun _ st oc u => oc = .returned none ∧ va_P D vwCl (wl 1 (adM h) tc memM) u.heap ∧ va_F (fun q => h ≤ q) st u
section CM
variable {p : Program} {l : Launch} {e : Env} {R : Room} {s : State} {m : MethodId} {args : Array Value} {below : List Frame} {meth : Method} {c : Code} {D : va_G} {ad tc : Nat → Nat} {A : Nat → Prop} {Z : State → Prop} {H : Heap} {locs : List Loc} {pc ca sl nL sd : Nat} {ls : Array Slot} {rest : List Value} {cc : ByteArray} {own : String} {μ : Mem}
theorem w_iast (F : CallFix p m c cc nL s args gT own) (hK : va_K D vwCl (tysA tc) s) (hP : va_P D vwCl (wl sd ad tc μ) H) (hD : va_D A (wl sd ad tc μ)) (hS : va_S A s.heap H locs) {k n bb : Nat} {i v : Int32} (hk : k < Nw sd) (hlay : lay sd k = (1, n, bb)) (hin : vp_in i n) (hdec : decode cc pc = .ok (.iastore, 1))
    (kk : ∀ (H1 : Heap) (locs1 : List Loc), va_P D vwCl (wl sd ad tc (wI μ k (upd (μ.1 k) i.toNatClampNeg v))) H1 → va_S A s.heap H1 locs1 → W p l e R s m args below meth c H1 locs1 ca sl Z (F0 m (pc + 1) ls rest)) : W p l e R s m args below meth c H locs ca sl Z (F0 m pc ls (.int v :: .int i :: .ref (ad k) :: rest)) := by
  obtain ⟨hx, hb, hml, hown, hts⟩ := F
  refine va_iast hx hb hK hP hD hS k 0 (by rw [wl_get hk, cell_1 hlay]) rfl hin hdec (fun H1 locs1 hP1 hD1 hS1 => ?_)
  rw [setI hk (cell_1 hlay)] at hP1
  exact kk H1 locs1 hP1 hS1
theorem w_put (F : CallFix p m c cc nL s args gT own) (hK : va_K D vwCl (tysA tc) s) (hP : va_P D vwCl (wl sd ad tc μ) H) (hD : va_D A (wl sd ad tc μ)) (hS : va_S A s.heap H locs) {k ci j idx bb b2 : Nat} {ref : String} {v : Int32} (hk : k < Nw sd) (hlay : lay sd k = (0, ci, bb)) (h10 : ci < 10) (hj : j < (clT ci).2.2) (hfl : (fl sd k)[j]? = some (0, b2)) (hdc : ((clT ci).2.1 j).1 = ref) (hlink : Cond.fieldLink own idx ref ((clT ci).2.1 j).2.1 ((clT ci).2.1 j).2.2.1 ∈ gT) (hdec : decode cc pc = .ok (.putfield idx, 3))
    (kk : ∀ (H1 : Heap) (locs1 : List Loc), va_P D vwCl (wl sd ad tc (wI μ k (upd (μ.1 k) j v))) H1 → va_S A s.heap H1 locs1 → W p l e R s m args below meth c H1 locs1 ca sl Z (F0 m (pc + 3) ls rest)) : W p l e R s m args below meth c H locs ca sl Z (F0 m pc ls (.int v :: .ref (ad k) :: rest)) := by
  obtain ⟨hx, hb, hml, hown, hts⟩ := F
  obtain ⟨-, hlen, hsp⟩ := obj_spec hk hlay
  obtain ⟨ty0, hty, hnm⟩ := cl_ty h10
  obtain ⟨f1, f2⟩ := (hsp _ _ hfl).1 rfl
  refine va_put (ref := ref) (v := .int v) (C := (clT ci).1) (T := (clT ci).2.1) (N := (clT ci).2.2) hx hb hts (cl_in h10) ty0 hty hnm hown hK hP hD hS k (by rw [wl_get hk, cell_0 hlay]) (cl_get h10) j hj (hts _ hlink) (fun y hy => by rw [hdc] at hy; exact hy) f1 f2 rfl rfl (by rw [fsE_len]; exact (List.getElem?_eq_some_iff.mp hfl).1) hdec (fun H1 locs1 hP1 hD1 hS1 => ?_)
  have e1 : (fsE ad (μ.1 k) (μ.2 k) 0 (fl sd k)).set j (.int v) = fsE ad (upd (μ.1 k) j v) (μ.2 k) 0 (fl sd k) := by
    have h := fsE_set (ad := ad) (f := μ.1 k) (g := μ.2 k) (v := v) (fl sd k) 0 j _ hfl (fun z => by cases z) (fun z => by cases z)
    rw [Nat.zero_add] at h
    exact h
  rw [e1, setI hk (cell_0 hlay)] at hP1
  exact kk H1 locs1 hP1 hS1
end CM
def cwM : List (Nat × Cond) := [(921, Cond.methodLink "DearerByUseModel" (7 : Nat) ({ cls := "java/lang/Object", name := "<init>", desc := "()V" } : MethodName)), (87, Cond.instanceMethod ({ cls := "java/lang/Object", name := "<init>", desc := "()V" } : MethodName)), (88, Cond.code ({ cls := "java/lang/Object", name := "<init>", desc := "()V" } : MethodName) object_method_1_code (1 : Nat) (Option.none : Option Jvm.ClassFile.FieldType)), (117, Cond.arrayClass FieldType.int), (926, Cond.fieldLink "DearerByUseModel" (13 : Nat) "DearerByUseModel" "texts" "[I"), (927, Cond.fieldLink "DearerByUseModel" (17 : Nat) "DearerByUseModel" "textSize" "[I"), (930, Cond.fieldLink "DearerByUseModel" (20 : Nat) "DearerByUseModel" "tape" "[I"), (932, Cond.fieldLink "DearerByUseModel" (23 : Nat) "DearerByUseModel" "used" "[I"), (933, Cond.fieldLink "DearerByUseModel" (26 : Nat) "DearerByUseModel" "wordThing" "[I"), (934, Cond.fieldLink "DearerByUseModel" (29 : Nat) "DearerByUseModel" "wordLetters" "[I"), (936, Cond.fieldLink "DearerByUseModel" (32 : Nat) "DearerByUseModel" "wants" "[I"), (937, Cond.fieldLink "DearerByUseModel" (35 : Nat) "DearerByUseModel" "hours" "[I"), (938, Cond.fieldLink "DearerByUseModel" (38 : Nat) "DearerByUseModel" "purses" "[I"), (940, Cond.fieldLink "DearerByUseModel" (41 : Nat) "DearerByUseModel" "kinds" "[I"), (941, Cond.fieldLink "DearerByUseModel" (44 : Nat) "DearerByUseModel" "numbers" "[I"), (942, Cond.fieldLink "DearerByUseModel" (47 : Nat) "DearerByUseModel" "laws" "I"), (1106, Cond.arrayClass FieldType.long), (959, Cond.fieldLink "DearerByUseModel" (50 : Nat) "DearerByUseModel" "keptOf" "[J"), (960, Cond.fieldLink "DearerByUseModel" (54 : Nat) "DearerByUseModel" "keptWas" "[I"), (961, Cond.fieldLink "DearerByUseModel" (57 : Nat) "DearerByUseModel" "row" "[I"), (962, Cond.fieldLink "DearerByUseModel" (60 : Nat) "DearerByUseModel" "aside" "[I"), (963, Cond.fieldLink "DearerByUseModel" (63 : Nat) "DearerByUseModel" "said" "[I"), (964, Cond.fieldLink "DearerByUseModel" (66 : Nat) "DearerByUseModel" "paid" "[I"), (965, Cond.fieldLink "DearerByUseModel" (69 : Nat) "DearerByUseModel" "asked" "I"), (970, Cond.fieldLink "DearerByUseModel" (72 : Nat) "DearerByUseModel" "hoursWas" "[I"), (973, Cond.fieldLink "DearerByUseModel" (75 : Nat) "DearerByUseModel" "usedKept" "[I"), (974, Cond.fieldLink "DearerByUseModel" (78 : Nat) "DearerByUseModel" "writersKept" "[I"), (975, Cond.fieldLink "DearerByUseModel" (81 : Nat) "DearerByUseModel" "numbersKept" "[I"), (976, Cond.fieldLink "DearerByUseModel" (84 : Nat) "DearerByUseModel" "writersMany" "I"), (1107, Cond.arrayClass FieldType.boolean), (981, Cond.fieldLink "DearerByUseModel" (87 : Nat) "DearerByUseModel" "isThere" "[Z"), (982, Cond.fieldLink "DearerByUseModel" (91 : Nat) "DearerByUseModel" "sorts" "[I"), (983, Cond.fieldLink "DearerByUseModel" (94 : Nat) "DearerByUseModel" "sheetSize" "[I"), (984, Cond.fieldLink "DearerByUseModel" (97 : Nat) "DearerByUseModel" "items" "[I"), (922, Cond.methodLink "DearerByUseModel" (100 : Nat) ({ cls := "DearerByUseModel", name := "spell", desc := "(IIIIIIIII)V" } : MethodName)), (928, Cond.fieldLink "DearerByUseModel" (104 : Nat) "DearerByUseModel" "textCount" "I")]
set_option maxRecDepth 100000 in
theorem cwM_ok : cwM.all wOk = true := by decide +kernel
def dl_M : List (Nat × Instr × Nat) := [(0, .aload_n 0, 1), (1, .invokespecial 7, 3), (4, .aload_n 0, 1), (5, .sipush 960, 3), (8, .newarray .int, 2), (10, .putfield 13, 3), (13, .aload_n 0, 1), (14, .bipush 6, 2), (16, .newarray .int, 2), (18, .putfield 17, 3), (21, .aload_n 0, 1), (22, .sipush 160, 3), (25, .newarray .int, 2), (27, .putfield 20, 3), (30, .aload_n 0, 1), (31, .bipush 8, 2), (33, .newarray .int, 2), (35, .putfield 23, 3), (38, .aload_n 0, 1), (39, .bipush 10, 2), (41, .newarray .int, 2), (43, .putfield 26, 3), (46, .aload_n 0, 1), (47, .bipush 10, 2), (49, .newarray .int, 2), (51, .putfield 29, 3), (54, .aload_n 0, 1), (55, .iconst 5, 1), (56, .newarray .int, 2), (58, .putfield 32, 3), (61, .aload_n 0, 1), (62, .iconst 5, 1), (63, .newarray .int, 2), (65, .putfield 35, 3), (68, .aload_n 0, 1), (69, .iconst 5, 1), (70, .newarray .int, 2), (72, .putfield 38, 3), (75, .aload_n 0, 1), (76, .bipush 6, 2), (78, .newarray .int, 2), (80, .putfield 41, 3), (83, .aload_n 0, 1), (84, .bipush 6, 2), (86, .newarray .int, 2), (88, .putfield 44, 3), (91, .aload_n 0, 1), (92, .iconst 1, 1), (93, .putfield 47, 3), (96, .aload_n 0, 1), (97, .sipush 1024, 3), (100, .newarray .long, 2), (102, .putfield 50, 3), (105, .aload_n 0, 1), (106, .sipush 1024, 3), (109, .newarray .int, 2), (111, .putfield 54, 3), (114, .aload_n 0, 1), (115, .bipush 8, 2), (117, .newarray .int, 2), (119, .putfield 57, 3), (122, .aload_n 0, 1), (123, .bipush 8, 2), (125, .newarray .int, 2), (127, .putfield 60, 3), (130, .aload_n 0, 1), (131, .iconst 5, 1), (132, .newarray .int, 2), (134, .putfield 63, 3), (137, .aload_n 0, 1), (138, .iconst 5, 1), (139, .newarray .int, 2), (141, .putfield 66, 3), (144, .aload_n 0, 1), (145, .iconst (-1), 1), (146, .putfield 69, 3), (149, .aload_n 0, 1), (150, .iconst 5, 1), (151, .newarray .int, 2), (153, .putfield 72, 3), (156, .aload_n 0, 1), (157, .bipush 8, 2), (159, .newarray .int, 2), (161, .putfield 75, 3), (164, .aload_n 0, 1), (165, .bipush 15, 2), (167, .newarray .int, 2), (169, .putfield 78, 3), (172, .aload_n 0, 1), (173, .bipush 6, 2), (175, .newarray .int, 2), (177, .putfield 81, 3), (180, .aload_n 0, 1), (181, .iconst (-1), 1), (182, .putfield 84, 3), (185, .aload_n 0, 1), (186, .iconst 4, 1), (187, .newarray .boolean, 2), (189, .putfield 87, 3), (192, .aload_n 0, 1), (193, .iconst 4, 1), (194, .newarray .int, 2), (196, .putfield 91, 3), (199, .aload_n 0, 1), (200, .iconst 4, 1), (201, .newarray .int, 2), (203, .putfield 94, 3), (206, .aload_n 0, 1), (207, .sipush 160, 3), (210, .newarray .int, 2), (212, .putfield 97, 3), (215, .aload_n 0, 1), (216, .iconst 0, 1), (217, .bipush 97, 2), (219, .bipush 100, 2), (221, .bipush 100, 2), (223, .bipush 115, 2), (225, .bipush 32, 2), (227, .bipush 48, 2), (229, .bipush 32, 2), (231, .bipush 59, 2), (233, .invokevirtual 100, 3), (236, .aload_n 0, 1), (237, .bipush 8, 2), (239, .bipush 32, 2), (241, .bipush 119, 2), (243, .bipush 111, 2), (245, .bipush 114, 2), (247, .bipush 116, 2), (249, .bipush 104, 2), (251, .bipush 32, 2), (253, .bipush 53, 2), (255, .invokevirtual 100, 3), (258, .aload_n 0, 1), (259, .bipush 16, 2), (261, .bipush 48, 2), (263, .bipush 32, 2), (265, .bipush 45, 2), (267, .bipush 32, 2), (269, .bipush 108, 2), (271, .bipush 101, 2), (273, .bipush 110, 2), (275, .bipush 103, 2), (277, .invokevirtual 100, 3), (280, .aload_n 0, 1), (281, .bipush 24, 2), (283, .bipush 116, 2), (285, .bipush 104, 2), (287, .bipush 32, 2), (289, .bipush 59, 2), (291, .bipush 32, 2), (293, .bipush 109, 2), (295, .bipush 97, 2), (297, .bipush 121, 2), (299, .invokevirtual 100, 3), (302, .aload_n 0, 1), (303, .bipush 32, 2), (305, .bipush 32, 2), (307, .bipush 49, 2), (309, .bipush 32, 2), (311, .bipush 59, 2), (313, .bipush 32, 2), (315, .bipush 32, 2), (317, .bipush 32, 2), (319, .bipush 32, 2), (321, .invokevirtual 100, 3), (324, .aload_n 0, 1), (325, .getfield 17, 3), (328, .iconst 0, 1), (329, .bipush 40, 2), (331, .iastore, 1), (332, .aload_n 0, 1), (333, .iconst 1, 1), (334, .putfield 104, 3), (337, .aload_n 0, 1), (338, .getfield 44, 3), (341, .iconst 0, 1), (342, .iconst 1, 1), (343, .iastore, 1), (344, .return_, 1)]
set_option maxRecDepth 100000 in
theorem dl_M_ok : dl_M.all (dOk prog_11_method_4_code) = true := by decide +kernel
section CK
variable {p : Program} {l : Launch} {e : Env} {s : State} {m : MethodId} {args : Array Value} {below : List Frame} {meth : Method} {c : Code} {D : va_G} {tc : Nat → Nat} {Z : State → Prop} {H : Heap} {locs : List Loc} {h : Nat} {ls : Array Slot} {μ : Mem}
def eM_0 (h : Nat) (tc : Nat → Nat) : List va_E := [.inr (9, [.int 0, .null, .null, .int 0, .int 0, .null, .int 0, .null, .null, .null, .int 0, .null, .null, .null, .int 0, .null, .null, .int 0, .int 0, .int 0, .int 0, .int 0, .int 0, .int 0, .int 0, .int 0, .int 0, .int 0, .int 0, .int 0, .long 0, .int 0, .int 0, .int 0, .null, .null, .null, .null, .null, .null, .int 0, .int 0, .int 0, .int 0, .int 0, .null, .int 0, .int 0, .null, .null, .null, .int 0, .int 0, .int 0, .int 0, .int 0, .null, .null, .null, .null])]
def eM_1 (h : Nat) (tc : Nat → Nat) : List va_E := [.inr (9, [.int 0, .ref (h + 1), .ref (h + 2), .int 0, .int 0, .ref (h + 3), .int 0, .ref (h + 4), .null, .null, .int 0, .null, .null, .null, .int 0, .null, .null, .int 0, .int 0, .int 0, .int 0, .int 0, .int 0, .int 0, .int 0, .int 0, .int 0, .int 0, .int 0, .int 0, .long 0, .int 0, .int 0, .int 0, .null, .null, .null, .null, .null, .null, .int 0, .int 0, .int 0, .int 0, .int 0, .null, .int 0, .int 0, .null, .null, .null, .int 0, .int 0, .int 0, .int 0, .int 0, .null, .null, .null, .null]), .inl (tc 0, 960, .inl (fun _ => 0)), .inl (tc 0, 6, .inl (fun _ => 0)), .inl (tc 0, 160, .inl (fun _ => 0)), .inl (tc 0, 8, .inl (fun _ => 0))]
set_option maxHeartbeats 4000000 in
theorem cM_0 (C : Kx p s m args meth c prog_11_method_4_code 1 "DearerByUseModel" D tc h) (hl : lv_has ls 1 [(0, .ref h)]) (hB : Bx D h s (eM_0 h tc) H locs) (kk : ∀ (H1 : Heap) (locs1 : List Loc), Bx D h s (eM_1 h tc) H1 locs1 → W p l e { frames := 10, cells := 25, slots := 3461, locals := 1000 } s m args below meth c H1 locs1 4 1134 Z (F0 m 38 ls [])) : W p l e { frames := 10, cells := 25, slots := 3461, locals := 1000 } s m args below meth c H locs 0 0 Z (F0 m 4 ls []) := by
  have hx := C.1.1
  have hb := C.1.2.1
  refine lv_aload_n hx hb (dk dl_M_ok 2 rfl) rfl (lv_at hl 0 rfl) ?_
  refine lv_sipush (v := 960) hx hb (dk dl_M_ok 3 rfl) (by decide) ?_
  refine k_newa (atype := .int) (t0 := 0) (cA := tc 0) (N := 960) (n := 960) (a0 := (960, .inl (fun _ => 0))) C (wk cwM_ok 3 rfl) rfl rfl (by decide) (by decide) (Nat.le_of_ble_eq_true rfl) (Nat.le_of_ble_eq_true rfl) (Nat.le_of_ble_eq_true rfl) hB (h + 1) rfl (dk dl_M_ok 4 rfl) (fun H hB => ?_)
  refine k_put (ci := 9) (k := 1) (v := .ref (h + 1)) (ty := .array .int) C (Nat.le_of_ble_eq_true rfl) (Nat.le_of_ble_eq_true rfl) rfl (wk cwM_ok 4 rfl) (tyX9_ok 1 (by decide)) rfl rfl (Nat.le_of_ble_eq_true rfl) hB (dk dl_M_ok 5 rfl) (fun H locs hB => ?_)
  refine lv_aload_n hx hb (dk dl_M_ok 6 rfl) rfl (lv_at hl 0 rfl) ?_
  refine lv_bipush (v := 6) hx hb (dk dl_M_ok 7 rfl) (by decide) ?_
  refine k_newa (atype := .int) (t0 := 0) (cA := tc 0) (N := 6) (n := 6) (a0 := (6, .inl (fun _ => 0))) C (wk cwM_ok 3 rfl) rfl rfl (by decide) (by decide) (Nat.le_of_ble_eq_true rfl) (Nat.le_of_ble_eq_true rfl) (Nat.le_of_ble_eq_true rfl) hB (h + 2) rfl (dk dl_M_ok 8 rfl) (fun H hB => ?_)
  refine k_put (ci := 9) (k := 2) (v := .ref (h + 2)) (ty := .array .int) C (Nat.le_of_ble_eq_true rfl) (Nat.le_of_ble_eq_true rfl) rfl (wk cwM_ok 5 rfl) (tyX9_ok 2 (by decide)) rfl rfl (Nat.le_of_ble_eq_true rfl) hB (dk dl_M_ok 9 rfl) (fun H locs hB => ?_)
  refine lv_aload_n hx hb (dk dl_M_ok 10 rfl) rfl (lv_at hl 0 rfl) ?_
  refine lv_sipush (v := 160) hx hb (dk dl_M_ok 11 rfl) (by decide) ?_
  refine k_newa (atype := .int) (t0 := 0) (cA := tc 0) (N := 160) (n := 160) (a0 := (160, .inl (fun _ => 0))) C (wk cwM_ok 3 rfl) rfl rfl (by decide) (by decide) (Nat.le_of_ble_eq_true rfl) (Nat.le_of_ble_eq_true rfl) (Nat.le_of_ble_eq_true rfl) hB (h + 3) rfl (dk dl_M_ok 12 rfl) (fun H hB => ?_)
  refine k_put (ci := 9) (k := 5) (v := .ref (h + 3)) (ty := .array .int) C (Nat.le_of_ble_eq_true rfl) (Nat.le_of_ble_eq_true rfl) rfl (wk cwM_ok 6 rfl) (tyX9_ok 5 (by decide)) rfl rfl (Nat.le_of_ble_eq_true rfl) hB (dk dl_M_ok 13 rfl) (fun H locs hB => ?_)
  refine lv_aload_n hx hb (dk dl_M_ok 14 rfl) rfl (lv_at hl 0 rfl) ?_
  refine lv_bipush (v := 8) hx hb (dk dl_M_ok 15 rfl) (by decide) ?_
  refine k_newa (atype := .int) (t0 := 0) (cA := tc 0) (N := 8) (n := 8) (a0 := (8, .inl (fun _ => 0))) C (wk cwM_ok 3 rfl) rfl rfl (by decide) (by decide) (Nat.le_of_ble_eq_true rfl) (Nat.le_of_ble_eq_true rfl) (Nat.le_of_ble_eq_true rfl) hB (h + 4) rfl (dk dl_M_ok 16 rfl) (fun H hB => ?_)
  refine k_put (ci := 9) (k := 7) (v := .ref (h + 4)) (ty := .array .int) C (Nat.le_of_ble_eq_true rfl) (Nat.le_of_ble_eq_true rfl) rfl (wk cwM_ok 7 rfl) (tyX9_ok 7 (by decide)) rfl rfl (Nat.le_of_ble_eq_true rfl) hB (dk dl_M_ok 17 rfl) (fun H locs hB => ?_)
  exact kk _ _ hB
def eM_2 (h : Nat) (tc : Nat → Nat) : List va_E := [.inr (9, [.int 0, .ref (h + 1), .ref (h + 2), .int 0, .int 0, .ref (h + 3), .int 0, .ref (h + 4), .ref (h + 5), .ref (h + 6), .int 0, .ref (h + 7), .ref (h + 8), .null, .int 0, .null, .null, .int 0, .int 0, .int 0, .int 0, .int 0, .int 0, .int 0, .int 0, .int 0, .int 0, .int 0, .int 0, .int 0, .long 0, .int 0, .int 0, .int 0, .null, .null, .null, .null, .null, .null, .int 0, .int 0, .int 0, .int 0, .int 0, .null, .int 0, .int 0, .null, .null, .null, .int 0, .int 0, .int 0, .int 0, .int 0, .null, .null, .null, .null]), .inl (tc 0, 960, .inl (fun _ => 0)), .inl (tc 0, 6, .inl (fun _ => 0)), .inl (tc 0, 160, .inl (fun _ => 0)), .inl (tc 0, 8, .inl (fun _ => 0)), .inl (tc 0, 10, .inl (fun _ => 0)), .inl (tc 0, 10, .inl (fun _ => 0)), .inl (tc 0, 5, .inl (fun _ => 0)), .inl (tc 0, 5, .inl (fun _ => 0))]
set_option maxHeartbeats 4000000 in
theorem cM_1 (C : Kx p s m args meth c prog_11_method_4_code 1 "DearerByUseModel" D tc h) (hl : lv_has ls 1 [(0, .ref h)]) (hB : Bx D h s (eM_1 h tc) H locs) (kk : ∀ (H1 : Heap) (locs1 : List Loc), Bx D h s (eM_2 h tc) H1 locs1 → W p l e { frames := 10, cells := 25, slots := 3461, locals := 1000 } s m args below meth c H1 locs1 8 1164 Z (F0 m 68 ls [])) : W p l e { frames := 10, cells := 25, slots := 3461, locals := 1000 } s m args below meth c H locs 4 1134 Z (F0 m 38 ls []) := by
  have hx := C.1.1
  have hb := C.1.2.1
  refine lv_aload_n hx hb (dk dl_M_ok 18 rfl) rfl (lv_at hl 0 rfl) ?_
  refine lv_bipush (v := 10) hx hb (dk dl_M_ok 19 rfl) (by decide) ?_
  refine k_newa (atype := .int) (t0 := 0) (cA := tc 0) (N := 10) (n := 10) (a0 := (10, .inl (fun _ => 0))) C (wk cwM_ok 3 rfl) rfl rfl (by decide) (by decide) (Nat.le_of_ble_eq_true rfl) (Nat.le_of_ble_eq_true rfl) (Nat.le_of_ble_eq_true rfl) hB (h + 5) rfl (dk dl_M_ok 20 rfl) (fun H hB => ?_)
  refine k_put (ci := 9) (k := 8) (v := .ref (h + 5)) (ty := .array .int) C (Nat.le_of_ble_eq_true rfl) (Nat.le_of_ble_eq_true rfl) rfl (wk cwM_ok 8 rfl) (tyX9_ok 8 (by decide)) rfl rfl (Nat.le_of_ble_eq_true rfl) hB (dk dl_M_ok 21 rfl) (fun H locs hB => ?_)
  refine lv_aload_n hx hb (dk dl_M_ok 22 rfl) rfl (lv_at hl 0 rfl) ?_
  refine lv_bipush (v := 10) hx hb (dk dl_M_ok 23 rfl) (by decide) ?_
  refine k_newa (atype := .int) (t0 := 0) (cA := tc 0) (N := 10) (n := 10) (a0 := (10, .inl (fun _ => 0))) C (wk cwM_ok 3 rfl) rfl rfl (by decide) (by decide) (Nat.le_of_ble_eq_true rfl) (Nat.le_of_ble_eq_true rfl) (Nat.le_of_ble_eq_true rfl) hB (h + 6) rfl (dk dl_M_ok 24 rfl) (fun H hB => ?_)
  refine k_put (ci := 9) (k := 9) (v := .ref (h + 6)) (ty := .array .int) C (Nat.le_of_ble_eq_true rfl) (Nat.le_of_ble_eq_true rfl) rfl (wk cwM_ok 9 rfl) (tyX9_ok 9 (by decide)) rfl rfl (Nat.le_of_ble_eq_true rfl) hB (dk dl_M_ok 25 rfl) (fun H locs hB => ?_)
  refine lv_aload_n hx hb (dk dl_M_ok 26 rfl) rfl (lv_at hl 0 rfl) ?_
  refine lv_iconst (v := 5) hx hb (dk dl_M_ok 27 rfl) (by decide) ?_
  refine k_newa (atype := .int) (t0 := 0) (cA := tc 0) (N := 5) (n := 5) (a0 := (5, .inl (fun _ => 0))) C (wk cwM_ok 3 rfl) rfl rfl (by decide) (by decide) (Nat.le_of_ble_eq_true rfl) (Nat.le_of_ble_eq_true rfl) (Nat.le_of_ble_eq_true rfl) hB (h + 7) rfl (dk dl_M_ok 28 rfl) (fun H hB => ?_)
  refine k_put (ci := 9) (k := 11) (v := .ref (h + 7)) (ty := .array .int) C (Nat.le_of_ble_eq_true rfl) (Nat.le_of_ble_eq_true rfl) rfl (wk cwM_ok 10 rfl) (tyX9_ok 11 (by decide)) rfl rfl (Nat.le_of_ble_eq_true rfl) hB (dk dl_M_ok 29 rfl) (fun H locs hB => ?_)
  refine lv_aload_n hx hb (dk dl_M_ok 30 rfl) rfl (lv_at hl 0 rfl) ?_
  refine lv_iconst (v := 5) hx hb (dk dl_M_ok 31 rfl) (by decide) ?_
  refine k_newa (atype := .int) (t0 := 0) (cA := tc 0) (N := 5) (n := 5) (a0 := (5, .inl (fun _ => 0))) C (wk cwM_ok 3 rfl) rfl rfl (by decide) (by decide) (Nat.le_of_ble_eq_true rfl) (Nat.le_of_ble_eq_true rfl) (Nat.le_of_ble_eq_true rfl) hB (h + 8) rfl (dk dl_M_ok 32 rfl) (fun H hB => ?_)
  refine k_put (ci := 9) (k := 12) (v := .ref (h + 8)) (ty := .array .int) C (Nat.le_of_ble_eq_true rfl) (Nat.le_of_ble_eq_true rfl) rfl (wk cwM_ok 11 rfl) (tyX9_ok 12 (by decide)) rfl rfl (Nat.le_of_ble_eq_true rfl) hB (dk dl_M_ok 33 rfl) (fun H locs hB => ?_)
  exact kk _ _ hB
def eM_3 (h : Nat) (tc : Nat → Nat) : List va_E := [.inr (9, [.int 0, .ref (h + 1), .ref (h + 2), .int 0, .int 0, .ref (h + 3), .int 0, .ref (h + 4), .ref (h + 5), .ref (h + 6), .int 0, .ref (h + 7), .ref (h + 8), .ref (h + 9), .int 0, .ref (h + 10), .ref (h + 11), .int 1, .int 0, .int 0, .int 0, .int 0, .int 0, .int 0, .int 0, .int 0, .int 0, .int 0, .int 0, .int 0, .long 0, .int 0, .int 0, .int 0, .null, .null, .null, .null, .null, .null, .int 0, .int 0, .int 0, .int 0, .int 0, .null, .int 0, .int 0, .null, .null, .null, .int 0, .int 0, .int 0, .int 0, .int 0, .null, .null, .null, .null]), .inl (tc 0, 960, .inl (fun _ => 0)), .inl (tc 0, 6, .inl (fun _ => 0)), .inl (tc 0, 160, .inl (fun _ => 0)), .inl (tc 0, 8, .inl (fun _ => 0)), .inl (tc 0, 10, .inl (fun _ => 0)), .inl (tc 0, 10, .inl (fun _ => 0)), .inl (tc 0, 5, .inl (fun _ => 0)), .inl (tc 0, 5, .inl (fun _ => 0)), .inl (tc 0, 5, .inl (fun _ => 0)), .inl (tc 0, 6, .inl (fun _ => 0)), .inl (tc 0, 6, .inl (fun _ => 0))]
set_option maxHeartbeats 4000000 in
theorem cM_2 (C : Kx p s m args meth c prog_11_method_4_code 1 "DearerByUseModel" D tc h) (hl : lv_has ls 1 [(0, .ref h)]) (hB : Bx D h s (eM_2 h tc) H locs) (kk : ∀ (H1 : Heap) (locs1 : List Loc), Bx D h s (eM_3 h tc) H1 locs1 → W p l e { frames := 10, cells := 25, slots := 3461, locals := 1000 } s m args below meth c H1 locs1 11 1181 Z (F0 m 96 ls [])) : W p l e { frames := 10, cells := 25, slots := 3461, locals := 1000 } s m args below meth c H locs 8 1164 Z (F0 m 68 ls []) := by
  have hx := C.1.1
  have hb := C.1.2.1
  refine lv_aload_n hx hb (dk dl_M_ok 34 rfl) rfl (lv_at hl 0 rfl) ?_
  refine lv_iconst (v := 5) hx hb (dk dl_M_ok 35 rfl) (by decide) ?_
  refine k_newa (atype := .int) (t0 := 0) (cA := tc 0) (N := 5) (n := 5) (a0 := (5, .inl (fun _ => 0))) C (wk cwM_ok 3 rfl) rfl rfl (by decide) (by decide) (Nat.le_of_ble_eq_true rfl) (Nat.le_of_ble_eq_true rfl) (Nat.le_of_ble_eq_true rfl) hB (h + 9) rfl (dk dl_M_ok 36 rfl) (fun H hB => ?_)
  refine k_put (ci := 9) (k := 13) (v := .ref (h + 9)) (ty := .array .int) C (Nat.le_of_ble_eq_true rfl) (Nat.le_of_ble_eq_true rfl) rfl (wk cwM_ok 12 rfl) (tyX9_ok 13 (by decide)) rfl rfl (Nat.le_of_ble_eq_true rfl) hB (dk dl_M_ok 37 rfl) (fun H locs hB => ?_)
  refine lv_aload_n hx hb (dk dl_M_ok 38 rfl) rfl (lv_at hl 0 rfl) ?_
  refine lv_bipush (v := 6) hx hb (dk dl_M_ok 39 rfl) (by decide) ?_
  refine k_newa (atype := .int) (t0 := 0) (cA := tc 0) (N := 6) (n := 6) (a0 := (6, .inl (fun _ => 0))) C (wk cwM_ok 3 rfl) rfl rfl (by decide) (by decide) (Nat.le_of_ble_eq_true rfl) (Nat.le_of_ble_eq_true rfl) (Nat.le_of_ble_eq_true rfl) hB (h + 10) rfl (dk dl_M_ok 40 rfl) (fun H hB => ?_)
  refine k_put (ci := 9) (k := 15) (v := .ref (h + 10)) (ty := .array .int) C (Nat.le_of_ble_eq_true rfl) (Nat.le_of_ble_eq_true rfl) rfl (wk cwM_ok 13 rfl) (tyX9_ok 15 (by decide)) rfl rfl (Nat.le_of_ble_eq_true rfl) hB (dk dl_M_ok 41 rfl) (fun H locs hB => ?_)
  refine lv_aload_n hx hb (dk dl_M_ok 42 rfl) rfl (lv_at hl 0 rfl) ?_
  refine lv_bipush (v := 6) hx hb (dk dl_M_ok 43 rfl) (by decide) ?_
  refine k_newa (atype := .int) (t0 := 0) (cA := tc 0) (N := 6) (n := 6) (a0 := (6, .inl (fun _ => 0))) C (wk cwM_ok 3 rfl) rfl rfl (by decide) (by decide) (Nat.le_of_ble_eq_true rfl) (Nat.le_of_ble_eq_true rfl) (Nat.le_of_ble_eq_true rfl) hB (h + 11) rfl (dk dl_M_ok 44 rfl) (fun H hB => ?_)
  refine k_put (ci := 9) (k := 16) (v := .ref (h + 11)) (ty := .array .int) C (Nat.le_of_ble_eq_true rfl) (Nat.le_of_ble_eq_true rfl) rfl (wk cwM_ok 14 rfl) (tyX9_ok 16 (by decide)) rfl rfl (Nat.le_of_ble_eq_true rfl) hB (dk dl_M_ok 45 rfl) (fun H locs hB => ?_)
  refine lv_aload_n hx hb (dk dl_M_ok 46 rfl) rfl (lv_at hl 0 rfl) ?_
  refine lv_iconst (v := 1) hx hb (dk dl_M_ok 47 rfl) (by decide) ?_
  refine k_put (ci := 9) (k := 17) (v := .int 1) (ty := .int) C (Nat.le_of_ble_eq_true rfl) (Nat.le_of_ble_eq_true rfl) rfl (wk cwM_ok 15 rfl) (tyX9_ok 17 (by decide)) rfl rfl (Nat.le_of_ble_eq_true rfl) hB (dk dl_M_ok 48 rfl) (fun H locs hB => ?_)
  exact kk _ _ hB
def eM_4 (h : Nat) (tc : Nat → Nat) : List va_E := [.inr (9, [.int 0, .ref (h + 1), .ref (h + 2), .int 0, .int 0, .ref (h + 3), .int 0, .ref (h + 4), .ref (h + 5), .ref (h + 6), .int 0, .ref (h + 7), .ref (h + 8), .ref (h + 9), .int 0, .ref (h + 10), .ref (h + 11), .int 1, .int 0, .int 0, .int 0, .int 0, .int 0, .int 0, .int 0, .int 0, .int 0, .int 0, .int 0, .int 0, .long 0, .int 0, .int 0, .int 0, .ref (h + 12), .ref (h + 13), .ref (h + 14), .ref (h + 15), .null, .null, .int 0, .int 0, .int 0, .int 0, .int 0, .null, .int 0, .int 0, .null, .null, .null, .int 0, .int 0, .int 0, .int 0, .int 0, .null, .null, .null, .null]), .inl (tc 0, 960, .inl (fun _ => 0)), .inl (tc 0, 6, .inl (fun _ => 0)), .inl (tc 0, 160, .inl (fun _ => 0)), .inl (tc 0, 8, .inl (fun _ => 0)), .inl (tc 0, 10, .inl (fun _ => 0)), .inl (tc 0, 10, .inl (fun _ => 0)), .inl (tc 0, 5, .inl (fun _ => 0)), .inl (tc 0, 5, .inl (fun _ => 0)), .inl (tc 0, 5, .inl (fun _ => 0)), .inl (tc 0, 6, .inl (fun _ => 0)), .inl (tc 0, 6, .inl (fun _ => 0)), .inl (tc 1, 1024, .inr (.inl (fun _ => 0))), .inl (tc 0, 1024, .inl (fun _ => 0)), .inl (tc 0, 8, .inl (fun _ => 0)), .inl (tc 0, 8, .inl (fun _ => 0))]
set_option maxHeartbeats 4000000 in
theorem cM_3 (C : Kx p s m args meth c prog_11_method_4_code 1 "DearerByUseModel" D tc h) (hl : lv_has ls 1 [(0, .ref h)]) (hB : Bx D h s (eM_3 h tc) H locs) (kk : ∀ (H1 : Heap) (locs1 : List Loc), Bx D h s (eM_4 h tc) H1 locs1 → W p l e { frames := 10, cells := 25, slots := 3461, locals := 1000 } s m args below meth c H1 locs1 15 3245 Z (F0 m 130 ls [])) : W p l e { frames := 10, cells := 25, slots := 3461, locals := 1000 } s m args below meth c H locs 11 1181 Z (F0 m 96 ls []) := by
  have hx := C.1.1
  have hb := C.1.2.1
  refine lv_aload_n hx hb (dk dl_M_ok 49 rfl) rfl (lv_at hl 0 rfl) ?_
  refine lv_sipush (v := 1024) hx hb (dk dl_M_ok 50 rfl) (by decide) ?_
  refine k_newa (atype := .long) (t0 := 1) (cA := tc 1) (N := 1024) (n := 1024) (a0 := (1024, .inr (.inl (fun _ => 0)))) C (wk cwM_ok 16 rfl) rfl rfl (by decide) (by decide) (Nat.le_of_ble_eq_true rfl) (Nat.le_of_ble_eq_true rfl) (Nat.le_of_ble_eq_true rfl) hB (h + 12) rfl (dk dl_M_ok 51 rfl) (fun H hB => ?_)
  refine k_put (ci := 9) (k := 34) (v := .ref (h + 12)) (ty := .array .long) C (Nat.le_of_ble_eq_true rfl) (Nat.le_of_ble_eq_true rfl) rfl (wk cwM_ok 17 rfl) (tyX9_ok 34 (by decide)) rfl rfl (Nat.le_of_ble_eq_true rfl) hB (dk dl_M_ok 52 rfl) (fun H locs hB => ?_)
  refine lv_aload_n hx hb (dk dl_M_ok 53 rfl) rfl (lv_at hl 0 rfl) ?_
  refine lv_sipush (v := 1024) hx hb (dk dl_M_ok 54 rfl) (by decide) ?_
  refine k_newa (atype := .int) (t0 := 0) (cA := tc 0) (N := 1024) (n := 1024) (a0 := (1024, .inl (fun _ => 0))) C (wk cwM_ok 3 rfl) rfl rfl (by decide) (by decide) (Nat.le_of_ble_eq_true rfl) (Nat.le_of_ble_eq_true rfl) (Nat.le_of_ble_eq_true rfl) hB (h + 13) rfl (dk dl_M_ok 55 rfl) (fun H hB => ?_)
  refine k_put (ci := 9) (k := 35) (v := .ref (h + 13)) (ty := .array .int) C (Nat.le_of_ble_eq_true rfl) (Nat.le_of_ble_eq_true rfl) rfl (wk cwM_ok 18 rfl) (tyX9_ok 35 (by decide)) rfl rfl (Nat.le_of_ble_eq_true rfl) hB (dk dl_M_ok 56 rfl) (fun H locs hB => ?_)
  refine lv_aload_n hx hb (dk dl_M_ok 57 rfl) rfl (lv_at hl 0 rfl) ?_
  refine lv_bipush (v := 8) hx hb (dk dl_M_ok 58 rfl) (by decide) ?_
  refine k_newa (atype := .int) (t0 := 0) (cA := tc 0) (N := 8) (n := 8) (a0 := (8, .inl (fun _ => 0))) C (wk cwM_ok 3 rfl) rfl rfl (by decide) (by decide) (Nat.le_of_ble_eq_true rfl) (Nat.le_of_ble_eq_true rfl) (Nat.le_of_ble_eq_true rfl) hB (h + 14) rfl (dk dl_M_ok 59 rfl) (fun H hB => ?_)
  refine k_put (ci := 9) (k := 36) (v := .ref (h + 14)) (ty := .array .int) C (Nat.le_of_ble_eq_true rfl) (Nat.le_of_ble_eq_true rfl) rfl (wk cwM_ok 19 rfl) (tyX9_ok 36 (by decide)) rfl rfl (Nat.le_of_ble_eq_true rfl) hB (dk dl_M_ok 60 rfl) (fun H locs hB => ?_)
  refine lv_aload_n hx hb (dk dl_M_ok 61 rfl) rfl (lv_at hl 0 rfl) ?_
  refine lv_bipush (v := 8) hx hb (dk dl_M_ok 62 rfl) (by decide) ?_
  refine k_newa (atype := .int) (t0 := 0) (cA := tc 0) (N := 8) (n := 8) (a0 := (8, .inl (fun _ => 0))) C (wk cwM_ok 3 rfl) rfl rfl (by decide) (by decide) (Nat.le_of_ble_eq_true rfl) (Nat.le_of_ble_eq_true rfl) (Nat.le_of_ble_eq_true rfl) hB (h + 15) rfl (dk dl_M_ok 63 rfl) (fun H hB => ?_)
  refine k_put (ci := 9) (k := 37) (v := .ref (h + 15)) (ty := .array .int) C (Nat.le_of_ble_eq_true rfl) (Nat.le_of_ble_eq_true rfl) rfl (wk cwM_ok 20 rfl) (tyX9_ok 37 (by decide)) rfl rfl (Nat.le_of_ble_eq_true rfl) hB (dk dl_M_ok 64 rfl) (fun H locs hB => ?_)
  exact kk _ _ hB
def eM_5 (h : Nat) (tc : Nat → Nat) : List va_E := [.inr (9, [.int 0, .ref (h + 1), .ref (h + 2), .int 0, .int 0, .ref (h + 3), .int 0, .ref (h + 4), .ref (h + 5), .ref (h + 6), .int 0, .ref (h + 7), .ref (h + 8), .ref (h + 9), .int 0, .ref (h + 10), .ref (h + 11), .int 1, .int 0, .int 0, .int 0, .int 0, .int 0, .int 0, .int 0, .int 0, .int 0, .int 0, .int 0, .int 0, .long 0, .int 0, .int 0, .int 0, .ref (h + 12), .ref (h + 13), .ref (h + 14), .ref (h + 15), .ref (h + 16), .ref (h + 17), .int (-1), .int 0, .int 0, .int 0, .int 0, .ref (h + 18), .int 0, .int 0, .null, .null, .null, .int 0, .int 0, .int 0, .int 0, .int 0, .null, .null, .null, .null]), .inl (tc 0, 960, .inl (fun _ => 0)), .inl (tc 0, 6, .inl (fun _ => 0)), .inl (tc 0, 160, .inl (fun _ => 0)), .inl (tc 0, 8, .inl (fun _ => 0)), .inl (tc 0, 10, .inl (fun _ => 0)), .inl (tc 0, 10, .inl (fun _ => 0)), .inl (tc 0, 5, .inl (fun _ => 0)), .inl (tc 0, 5, .inl (fun _ => 0)), .inl (tc 0, 5, .inl (fun _ => 0)), .inl (tc 0, 6, .inl (fun _ => 0)), .inl (tc 0, 6, .inl (fun _ => 0)), .inl (tc 1, 1024, .inr (.inl (fun _ => 0))), .inl (tc 0, 1024, .inl (fun _ => 0)), .inl (tc 0, 8, .inl (fun _ => 0)), .inl (tc 0, 8, .inl (fun _ => 0)), .inl (tc 0, 5, .inl (fun _ => 0)), .inl (tc 0, 5, .inl (fun _ => 0)), .inl (tc 0, 5, .inl (fun _ => 0))]
set_option maxHeartbeats 4000000 in
theorem cM_4 (C : Kx p s m args meth c prog_11_method_4_code 1 "DearerByUseModel" D tc h) (hl : lv_has ls 1 [(0, .ref h)]) (hB : Bx D h s (eM_4 h tc) H locs) (kk : ∀ (H1 : Heap) (locs1 : List Loc), Bx D h s (eM_5 h tc) H1 locs1 → W p l e { frames := 10, cells := 25, slots := 3461, locals := 1000 } s m args below meth c H1 locs1 18 3260 Z (F0 m 156 ls [])) : W p l e { frames := 10, cells := 25, slots := 3461, locals := 1000 } s m args below meth c H locs 15 3245 Z (F0 m 130 ls []) := by
  have hx := C.1.1
  have hb := C.1.2.1
  refine lv_aload_n hx hb (dk dl_M_ok 65 rfl) rfl (lv_at hl 0 rfl) ?_
  refine lv_iconst (v := 5) hx hb (dk dl_M_ok 66 rfl) (by decide) ?_
  refine k_newa (atype := .int) (t0 := 0) (cA := tc 0) (N := 5) (n := 5) (a0 := (5, .inl (fun _ => 0))) C (wk cwM_ok 3 rfl) rfl rfl (by decide) (by decide) (Nat.le_of_ble_eq_true rfl) (Nat.le_of_ble_eq_true rfl) (Nat.le_of_ble_eq_true rfl) hB (h + 16) rfl (dk dl_M_ok 67 rfl) (fun H hB => ?_)
  refine k_put (ci := 9) (k := 38) (v := .ref (h + 16)) (ty := .array .int) C (Nat.le_of_ble_eq_true rfl) (Nat.le_of_ble_eq_true rfl) rfl (wk cwM_ok 21 rfl) (tyX9_ok 38 (by decide)) rfl rfl (Nat.le_of_ble_eq_true rfl) hB (dk dl_M_ok 68 rfl) (fun H locs hB => ?_)
  refine lv_aload_n hx hb (dk dl_M_ok 69 rfl) rfl (lv_at hl 0 rfl) ?_
  refine lv_iconst (v := 5) hx hb (dk dl_M_ok 70 rfl) (by decide) ?_
  refine k_newa (atype := .int) (t0 := 0) (cA := tc 0) (N := 5) (n := 5) (a0 := (5, .inl (fun _ => 0))) C (wk cwM_ok 3 rfl) rfl rfl (by decide) (by decide) (Nat.le_of_ble_eq_true rfl) (Nat.le_of_ble_eq_true rfl) (Nat.le_of_ble_eq_true rfl) hB (h + 17) rfl (dk dl_M_ok 71 rfl) (fun H hB => ?_)
  refine k_put (ci := 9) (k := 39) (v := .ref (h + 17)) (ty := .array .int) C (Nat.le_of_ble_eq_true rfl) (Nat.le_of_ble_eq_true rfl) rfl (wk cwM_ok 22 rfl) (tyX9_ok 39 (by decide)) rfl rfl (Nat.le_of_ble_eq_true rfl) hB (dk dl_M_ok 72 rfl) (fun H locs hB => ?_)
  refine lv_aload_n hx hb (dk dl_M_ok 73 rfl) rfl (lv_at hl 0 rfl) ?_
  refine lv_iconst (v := -1) hx hb (dk dl_M_ok 74 rfl) (by decide) ?_
  refine k_put (ci := 9) (k := 40) (v := .int (-1)) (ty := .int) C (Nat.le_of_ble_eq_true rfl) (Nat.le_of_ble_eq_true rfl) rfl (wk cwM_ok 23 rfl) (tyX9_ok 40 (by decide)) rfl rfl (Nat.le_of_ble_eq_true rfl) hB (dk dl_M_ok 75 rfl) (fun H locs hB => ?_)
  refine lv_aload_n hx hb (dk dl_M_ok 76 rfl) rfl (lv_at hl 0 rfl) ?_
  refine lv_iconst (v := 5) hx hb (dk dl_M_ok 77 rfl) (by decide) ?_
  refine k_newa (atype := .int) (t0 := 0) (cA := tc 0) (N := 5) (n := 5) (a0 := (5, .inl (fun _ => 0))) C (wk cwM_ok 3 rfl) rfl rfl (by decide) (by decide) (Nat.le_of_ble_eq_true rfl) (Nat.le_of_ble_eq_true rfl) (Nat.le_of_ble_eq_true rfl) hB (h + 18) rfl (dk dl_M_ok 78 rfl) (fun H hB => ?_)
  refine k_put (ci := 9) (k := 45) (v := .ref (h + 18)) (ty := .array .int) C (Nat.le_of_ble_eq_true rfl) (Nat.le_of_ble_eq_true rfl) rfl (wk cwM_ok 24 rfl) (tyX9_ok 45 (by decide)) rfl rfl (Nat.le_of_ble_eq_true rfl) hB (dk dl_M_ok 79 rfl) (fun H locs hB => ?_)
  exact kk _ _ hB
def eM_6 (h : Nat) (tc : Nat → Nat) : List va_E := [.inr (9, [.int 0, .ref (h + 1), .ref (h + 2), .int 0, .int 0, .ref (h + 3), .int 0, .ref (h + 4), .ref (h + 5), .ref (h + 6), .int 0, .ref (h + 7), .ref (h + 8), .ref (h + 9), .int 0, .ref (h + 10), .ref (h + 11), .int 1, .int 0, .int 0, .int 0, .int 0, .int 0, .int 0, .int 0, .int 0, .int 0, .int 0, .int 0, .int 0, .long 0, .int 0, .int 0, .int 0, .ref (h + 12), .ref (h + 13), .ref (h + 14), .ref (h + 15), .ref (h + 16), .ref (h + 17), .int (-1), .int 0, .int 0, .int 0, .int 0, .ref (h + 18), .int 0, .int 0, .ref (h + 19), .ref (h + 20), .ref (h + 21), .int (-1), .int 0, .int 0, .int 0, .int 0, .null, .null, .null, .null]), .inl (tc 0, 960, .inl (fun _ => 0)), .inl (tc 0, 6, .inl (fun _ => 0)), .inl (tc 0, 160, .inl (fun _ => 0)), .inl (tc 0, 8, .inl (fun _ => 0)), .inl (tc 0, 10, .inl (fun _ => 0)), .inl (tc 0, 10, .inl (fun _ => 0)), .inl (tc 0, 5, .inl (fun _ => 0)), .inl (tc 0, 5, .inl (fun _ => 0)), .inl (tc 0, 5, .inl (fun _ => 0)), .inl (tc 0, 6, .inl (fun _ => 0)), .inl (tc 0, 6, .inl (fun _ => 0)), .inl (tc 1, 1024, .inr (.inl (fun _ => 0))), .inl (tc 0, 1024, .inl (fun _ => 0)), .inl (tc 0, 8, .inl (fun _ => 0)), .inl (tc 0, 8, .inl (fun _ => 0)), .inl (tc 0, 5, .inl (fun _ => 0)), .inl (tc 0, 5, .inl (fun _ => 0)), .inl (tc 0, 5, .inl (fun _ => 0)), .inl (tc 0, 8, .inl (fun _ => 0)), .inl (tc 0, 15, .inl (fun _ => 0)), .inl (tc 0, 6, .inl (fun _ => 0))]
set_option maxHeartbeats 4000000 in
theorem cM_5 (C : Kx p s m args meth c prog_11_method_4_code 1 "DearerByUseModel" D tc h) (hl : lv_has ls 1 [(0, .ref h)]) (hB : Bx D h s (eM_5 h tc) H locs) (kk : ∀ (H1 : Heap) (locs1 : List Loc), Bx D h s (eM_6 h tc) H1 locs1 → W p l e { frames := 10, cells := 25, slots := 3461, locals := 1000 } s m args below meth c H1 locs1 21 3289 Z (F0 m 185 ls [])) : W p l e { frames := 10, cells := 25, slots := 3461, locals := 1000 } s m args below meth c H locs 18 3260 Z (F0 m 156 ls []) := by
  have hx := C.1.1
  have hb := C.1.2.1
  refine lv_aload_n hx hb (dk dl_M_ok 80 rfl) rfl (lv_at hl 0 rfl) ?_
  refine lv_bipush (v := 8) hx hb (dk dl_M_ok 81 rfl) (by decide) ?_
  refine k_newa (atype := .int) (t0 := 0) (cA := tc 0) (N := 8) (n := 8) (a0 := (8, .inl (fun _ => 0))) C (wk cwM_ok 3 rfl) rfl rfl (by decide) (by decide) (Nat.le_of_ble_eq_true rfl) (Nat.le_of_ble_eq_true rfl) (Nat.le_of_ble_eq_true rfl) hB (h + 19) rfl (dk dl_M_ok 82 rfl) (fun H hB => ?_)
  refine k_put (ci := 9) (k := 48) (v := .ref (h + 19)) (ty := .array .int) C (Nat.le_of_ble_eq_true rfl) (Nat.le_of_ble_eq_true rfl) rfl (wk cwM_ok 25 rfl) (tyX9_ok 48 (by decide)) rfl rfl (Nat.le_of_ble_eq_true rfl) hB (dk dl_M_ok 83 rfl) (fun H locs hB => ?_)
  refine lv_aload_n hx hb (dk dl_M_ok 84 rfl) rfl (lv_at hl 0 rfl) ?_
  refine lv_bipush (v := 15) hx hb (dk dl_M_ok 85 rfl) (by decide) ?_
  refine k_newa (atype := .int) (t0 := 0) (cA := tc 0) (N := 15) (n := 15) (a0 := (15, .inl (fun _ => 0))) C (wk cwM_ok 3 rfl) rfl rfl (by decide) (by decide) (Nat.le_of_ble_eq_true rfl) (Nat.le_of_ble_eq_true rfl) (Nat.le_of_ble_eq_true rfl) hB (h + 20) rfl (dk dl_M_ok 86 rfl) (fun H hB => ?_)
  refine k_put (ci := 9) (k := 49) (v := .ref (h + 20)) (ty := .array .int) C (Nat.le_of_ble_eq_true rfl) (Nat.le_of_ble_eq_true rfl) rfl (wk cwM_ok 26 rfl) (tyX9_ok 49 (by decide)) rfl rfl (Nat.le_of_ble_eq_true rfl) hB (dk dl_M_ok 87 rfl) (fun H locs hB => ?_)
  refine lv_aload_n hx hb (dk dl_M_ok 88 rfl) rfl (lv_at hl 0 rfl) ?_
  refine lv_bipush (v := 6) hx hb (dk dl_M_ok 89 rfl) (by decide) ?_
  refine k_newa (atype := .int) (t0 := 0) (cA := tc 0) (N := 6) (n := 6) (a0 := (6, .inl (fun _ => 0))) C (wk cwM_ok 3 rfl) rfl rfl (by decide) (by decide) (Nat.le_of_ble_eq_true rfl) (Nat.le_of_ble_eq_true rfl) (Nat.le_of_ble_eq_true rfl) hB (h + 21) rfl (dk dl_M_ok 90 rfl) (fun H hB => ?_)
  refine k_put (ci := 9) (k := 50) (v := .ref (h + 21)) (ty := .array .int) C (Nat.le_of_ble_eq_true rfl) (Nat.le_of_ble_eq_true rfl) rfl (wk cwM_ok 27 rfl) (tyX9_ok 50 (by decide)) rfl rfl (Nat.le_of_ble_eq_true rfl) hB (dk dl_M_ok 91 rfl) (fun H locs hB => ?_)
  refine lv_aload_n hx hb (dk dl_M_ok 92 rfl) rfl (lv_at hl 0 rfl) ?_
  refine lv_iconst (v := -1) hx hb (dk dl_M_ok 93 rfl) (by decide) ?_
  refine k_put (ci := 9) (k := 51) (v := .int (-1)) (ty := .int) C (Nat.le_of_ble_eq_true rfl) (Nat.le_of_ble_eq_true rfl) rfl (wk cwM_ok 28 rfl) (tyX9_ok 51 (by decide)) rfl rfl (Nat.le_of_ble_eq_true rfl) hB (dk dl_M_ok 94 rfl) (fun H locs hB => ?_)
  exact kk _ _ hB
def eM_7 (h : Nat) (tc : Nat → Nat) : List va_E := [.inr (9, [.int 0, .ref (h + 1), .ref (h + 2), .int 0, .int 0, .ref (h + 3), .int 0, .ref (h + 4), .ref (h + 5), .ref (h + 6), .int 0, .ref (h + 7), .ref (h + 8), .ref (h + 9), .int 0, .ref (h + 10), .ref (h + 11), .int 1, .int 0, .int 0, .int 0, .int 0, .int 0, .int 0, .int 0, .int 0, .int 0, .int 0, .int 0, .int 0, .long 0, .int 0, .int 0, .int 0, .ref (h + 12), .ref (h + 13), .ref (h + 14), .ref (h + 15), .ref (h + 16), .ref (h + 17), .int (-1), .int 0, .int 0, .int 0, .int 0, .ref (h + 18), .int 0, .int 0, .ref (h + 19), .ref (h + 20), .ref (h + 21), .int (-1), .int 0, .int 0, .int 0, .int 0, .ref (h + 22), .ref (h + 23), .ref (h + 24), .ref (h + 25)]), .inl (tc 0, 960, .inl (fun _ => 0)), .inl (tc 0, 6, .inl (fun _ => 0)), .inl (tc 0, 160, .inl (fun _ => 0)), .inl (tc 0, 8, .inl (fun _ => 0)), .inl (tc 0, 10, .inl (fun _ => 0)), .inl (tc 0, 10, .inl (fun _ => 0)), .inl (tc 0, 5, .inl (fun _ => 0)), .inl (tc 0, 5, .inl (fun _ => 0)), .inl (tc 0, 5, .inl (fun _ => 0)), .inl (tc 0, 6, .inl (fun _ => 0)), .inl (tc 0, 6, .inl (fun _ => 0)), .inl (tc 1, 1024, .inr (.inl (fun _ => 0))), .inl (tc 0, 1024, .inl (fun _ => 0)), .inl (tc 0, 8, .inl (fun _ => 0)), .inl (tc 0, 8, .inl (fun _ => 0)), .inl (tc 0, 5, .inl (fun _ => 0)), .inl (tc 0, 5, .inl (fun _ => 0)), .inl (tc 0, 5, .inl (fun _ => 0)), .inl (tc 0, 8, .inl (fun _ => 0)), .inl (tc 0, 15, .inl (fun _ => 0)), .inl (tc 0, 6, .inl (fun _ => 0)), .inl (tc 2, 4, .inl (fun _ => 0)), .inl (tc 0, 4, .inl (fun _ => 0)), .inl (tc 0, 4, .inl (fun _ => 0)), .inl (tc 0, 160, .inl (fun _ => 0))]
set_option maxHeartbeats 4000000 in
theorem cM_6 (C : Kx p s m args meth c prog_11_method_4_code 1 "DearerByUseModel" D tc h) (hl : lv_has ls 1 [(0, .ref h)]) (hB : Bx D h s (eM_6 h tc) H locs) (kk : ∀ (H1 : Heap) (locs1 : List Loc), Bx D h s (eM_7 h tc) H1 locs1 → W p l e { frames := 10, cells := 25, slots := 3461, locals := 1000 } s m args below meth c H1 locs1 25 3461 Z (F0 m 215 ls [])) : W p l e { frames := 10, cells := 25, slots := 3461, locals := 1000 } s m args below meth c H locs 21 3289 Z (F0 m 185 ls []) := by
  have hx := C.1.1
  have hb := C.1.2.1
  refine lv_aload_n hx hb (dk dl_M_ok 95 rfl) rfl (lv_at hl 0 rfl) ?_
  refine lv_iconst (v := 4) hx hb (dk dl_M_ok 96 rfl) (by decide) ?_
  refine k_newa (atype := .boolean) (t0 := 2) (cA := tc 2) (N := 4) (n := 4) (a0 := (4, .inl (fun _ => 0))) C (wk cwM_ok 29 rfl) rfl rfl (by decide) (by decide) (Nat.le_of_ble_eq_true rfl) (Nat.le_of_ble_eq_true rfl) (Nat.le_of_ble_eq_true rfl) hB (h + 22) rfl (dk dl_M_ok 97 rfl) (fun H hB => ?_)
  refine k_put (ci := 9) (k := 56) (v := .ref (h + 22)) (ty := .array .boolean) C (Nat.le_of_ble_eq_true rfl) (Nat.le_of_ble_eq_true rfl) rfl (wk cwM_ok 30 rfl) (tyX9_ok 56 (by decide)) rfl rfl (Nat.le_of_ble_eq_true rfl) hB (dk dl_M_ok 98 rfl) (fun H locs hB => ?_)
  refine lv_aload_n hx hb (dk dl_M_ok 99 rfl) rfl (lv_at hl 0 rfl) ?_
  refine lv_iconst (v := 4) hx hb (dk dl_M_ok 100 rfl) (by decide) ?_
  refine k_newa (atype := .int) (t0 := 0) (cA := tc 0) (N := 4) (n := 4) (a0 := (4, .inl (fun _ => 0))) C (wk cwM_ok 3 rfl) rfl rfl (by decide) (by decide) (Nat.le_of_ble_eq_true rfl) (Nat.le_of_ble_eq_true rfl) (Nat.le_of_ble_eq_true rfl) hB (h + 23) rfl (dk dl_M_ok 101 rfl) (fun H hB => ?_)
  refine k_put (ci := 9) (k := 57) (v := .ref (h + 23)) (ty := .array .int) C (Nat.le_of_ble_eq_true rfl) (Nat.le_of_ble_eq_true rfl) rfl (wk cwM_ok 31 rfl) (tyX9_ok 57 (by decide)) rfl rfl (Nat.le_of_ble_eq_true rfl) hB (dk dl_M_ok 102 rfl) (fun H locs hB => ?_)
  refine lv_aload_n hx hb (dk dl_M_ok 103 rfl) rfl (lv_at hl 0 rfl) ?_
  refine lv_iconst (v := 4) hx hb (dk dl_M_ok 104 rfl) (by decide) ?_
  refine k_newa (atype := .int) (t0 := 0) (cA := tc 0) (N := 4) (n := 4) (a0 := (4, .inl (fun _ => 0))) C (wk cwM_ok 3 rfl) rfl rfl (by decide) (by decide) (Nat.le_of_ble_eq_true rfl) (Nat.le_of_ble_eq_true rfl) (Nat.le_of_ble_eq_true rfl) hB (h + 24) rfl (dk dl_M_ok 105 rfl) (fun H hB => ?_)
  refine k_put (ci := 9) (k := 58) (v := .ref (h + 24)) (ty := .array .int) C (Nat.le_of_ble_eq_true rfl) (Nat.le_of_ble_eq_true rfl) rfl (wk cwM_ok 32 rfl) (tyX9_ok 58 (by decide)) rfl rfl (Nat.le_of_ble_eq_true rfl) hB (dk dl_M_ok 106 rfl) (fun H locs hB => ?_)
  refine lv_aload_n hx hb (dk dl_M_ok 107 rfl) rfl (lv_at hl 0 rfl) ?_
  refine lv_sipush (v := 160) hx hb (dk dl_M_ok 108 rfl) (by decide) ?_
  refine k_newa (atype := .int) (t0 := 0) (cA := tc 0) (N := 160) (n := 160) (a0 := (160, .inl (fun _ => 0))) C (wk cwM_ok 3 rfl) rfl rfl (by decide) (by decide) (Nat.le_of_ble_eq_true rfl) (Nat.le_of_ble_eq_true rfl) (Nat.le_of_ble_eq_true rfl) hB (h + 25) rfl (dk dl_M_ok 109 rfl) (fun H hB => ?_)
  refine k_put (ci := 9) (k := 59) (v := .ref (h + 25)) (ty := .array .int) C (Nat.le_of_ble_eq_true rfl) (Nat.le_of_ble_eq_true rfl) rfl (wk cwM_ok 33 rfl) (tyX9_ok 59 (by decide)) rfl rfl (Nat.le_of_ble_eq_true rfl) hB (dk dl_M_ok 110 rfl) (fun H locs hB => ?_)
  exact kk _ _ hB
theorem esM_wl (h : Nat) (tc : Nat → Nat) : eM_7 h tc = (List.range (Nw 1)).map (fun k => cellE 1 (adM h) tc (mem0.1 k) (mem0.2 k) k) := rfl
theorem dkM : ∀ μ, va_D (fun q => h ≤ q) (wl 1 (adM h) tc μ) := fun μ => wl_Dk (fun _ _ => rfl) (fun _ z => z)
theorem hAM (C : Kx p s m args meth c prog_11_method_4_code 1 "DearerByUseModel" D tc h) : ∀ q, s.heap.size ≤ q → (fun q => h ≤ q) q := fun q z => by have := C.2.2.2.2.2.1; show h ≤ q; omega
set_option maxHeartbeats 4000000 in
theorem cS_0 (C : Kx p s m args meth c prog_11_method_4_code 1 "DearerByUseModel" D tc h) (hl : lv_has ls 1 [(0, .ref h)]) (hP : va_P D vwCl (wl 1 (adM h) tc μ) H) (hS : va_S (fun q => h ≤ q) s.heap H locs) (kk : ∀ (H1 : Heap) (locs1 : List Loc), va_P D vwCl (wl 1 (adM h) tc (spl μ 0)) H1 → va_S (fun q => h ≤ q) s.heap H1 locs1 → W p l e { frames := 10, cells := 25, slots := 3461, locals := 1000 } s m args below meth c H1 locs1 25 3461 Z (F0 m 236 ls [])) : W p l e { frames := 10, cells := 25, slots := 3461, locals := 1000 } s m args below meth c H locs 25 3461 Z (F0 m 215 ls []) := by
  have hx := C.1.1
  have hb := C.1.2.1
  refine lv_aload_n hx hb (dk dl_M_ok 111 rfl) rfl (lv_at hl 0 rfl) ?_
  refine lv_iconst (v := 0) hx hb (dk dl_M_ok 112 rfl) (by decide) ?_
  refine lv_bipush (v := 97) hx hb (dk dl_M_ok 113 rfl) (by decide) ?_
  refine lv_bipush (v := 100) hx hb (dk dl_M_ok 114 rfl) (by decide) ?_
  refine lv_bipush (v := 100) hx hb (dk dl_M_ok 115 rfl) (by decide) ?_
  refine lv_bipush (v := 115) hx hb (dk dl_M_ok 116 rfl) (by decide) ?_
  refine lv_bipush (v := 32) hx hb (dk dl_M_ok 117 rfl) (by decide) ?_
  refine lv_bipush (v := 48) hx hb (dk dl_M_ok 118 rfl) (by decide) ?_
  refine lv_bipush (v := 32) hx hb (dk dl_M_ok 119 rfl) (by decide) ?_
  refine lv_bipush (v := 59) hx hb (dk dl_M_ok 120 rfl) (by decide) ?_
  refine W.eq (g2 := F0 m 233 ls ((([.int 0, .int 97, .int 100, .int 100, .int 115, .int 32, .int 48, .int 32, .int 59] : List Value).map (cv (adM h) .null)).reverse ++ .ref (adM h 0) :: [])) rfl ?_
  refine amV (sd := 1) (d := 1) (y := y_M_spell) (k := 0) (nL := 1) C.1 (by decide) (show Value.category .null = 1 from rfl) (by decide +kernel) (by decide +kernel) (by decide +kernel) (by decide +kernel) (by decide +kernel) (by decide +kernel) (by decide +kernel) ⟨by decide +kernel, by decide +kernel⟩ ⟨(Nat.le_of_ble_eq_true rfl), (Nat.le_of_ble_eq_true rfl)⟩ (C.1.2.2.2.2 _ (wk cwM_ok 34 rfl)) trivial (spellC (i := 0) (by decide) (by decide) (by decide +kernel) (by decide +kernel) (by decide +kernel) (by decide +kernel) (by decide +kernel) (by decide +kernel) (by decide +kernel) (by decide +kernel)) C.2.1 trivial (hAM C) hP (dkM _) hS (Nat.le_of_ble_eq_true rfl) hl.1 (dk dl_M_ok 121 rfl) (fun r μ1 H locs hq hty hro hP hS _ => ?_)
  rw [show (inf y_M_spell).2.2.2.2.1 = none by decide +kernel]
  subst hq
  refine W.eq (g2 := F0 m 236 ls []) rfl ?_
  exact kk _ _ hP hS
set_option maxHeartbeats 4000000 in
theorem cS_1 (C : Kx p s m args meth c prog_11_method_4_code 1 "DearerByUseModel" D tc h) (hl : lv_has ls 1 [(0, .ref h)]) (hP : va_P D vwCl (wl 1 (adM h) tc μ) H) (hS : va_S (fun q => h ≤ q) s.heap H locs) (kk : ∀ (H1 : Heap) (locs1 : List Loc), va_P D vwCl (wl 1 (adM h) tc (spl μ 1)) H1 → va_S (fun q => h ≤ q) s.heap H1 locs1 → W p l e { frames := 10, cells := 25, slots := 3461, locals := 1000 } s m args below meth c H1 locs1 25 3461 Z (F0 m 258 ls [])) : W p l e { frames := 10, cells := 25, slots := 3461, locals := 1000 } s m args below meth c H locs 25 3461 Z (F0 m 236 ls []) := by
  have hx := C.1.1
  have hb := C.1.2.1
  refine lv_aload_n hx hb (dk dl_M_ok 122 rfl) rfl (lv_at hl 0 rfl) ?_
  refine lv_bipush (v := 8) hx hb (dk dl_M_ok 123 rfl) (by decide) ?_
  refine lv_bipush (v := 32) hx hb (dk dl_M_ok 124 rfl) (by decide) ?_
  refine lv_bipush (v := 119) hx hb (dk dl_M_ok 125 rfl) (by decide) ?_
  refine lv_bipush (v := 111) hx hb (dk dl_M_ok 126 rfl) (by decide) ?_
  refine lv_bipush (v := 114) hx hb (dk dl_M_ok 127 rfl) (by decide) ?_
  refine lv_bipush (v := 116) hx hb (dk dl_M_ok 128 rfl) (by decide) ?_
  refine lv_bipush (v := 104) hx hb (dk dl_M_ok 129 rfl) (by decide) ?_
  refine lv_bipush (v := 32) hx hb (dk dl_M_ok 130 rfl) (by decide) ?_
  refine lv_bipush (v := 53) hx hb (dk dl_M_ok 131 rfl) (by decide) ?_
  refine W.eq (g2 := F0 m 255 ls ((([.int 8, .int 32, .int 119, .int 111, .int 114, .int 116, .int 104, .int 32, .int 53] : List Value).map (cv (adM h) .null)).reverse ++ .ref (adM h 0) :: [])) rfl ?_
  refine amV (sd := 1) (d := 1) (y := y_M_spell) (k := 0) (nL := 1) C.1 (by decide) (show Value.category .null = 1 from rfl) (by decide +kernel) (by decide +kernel) (by decide +kernel) (by decide +kernel) (by decide +kernel) (by decide +kernel) (by decide +kernel) ⟨by decide +kernel, by decide +kernel⟩ ⟨(Nat.le_of_ble_eq_true rfl), (Nat.le_of_ble_eq_true rfl)⟩ (C.1.2.2.2.2 _ (wk cwM_ok 34 rfl)) trivial (spellC (i := 1) (by decide) (by decide) (by decide +kernel) (by decide +kernel) (by decide +kernel) (by decide +kernel) (by decide +kernel) (by decide +kernel) (by decide +kernel) (by decide +kernel)) C.2.1 trivial (hAM C) hP (dkM _) hS (Nat.le_of_ble_eq_true rfl) hl.1 (dk dl_M_ok 132 rfl) (fun r μ1 H locs hq hty hro hP hS _ => ?_)
  rw [show (inf y_M_spell).2.2.2.2.1 = none by decide +kernel]
  subst hq
  refine W.eq (g2 := F0 m 258 ls []) rfl ?_
  exact kk _ _ hP hS
set_option maxHeartbeats 4000000 in
theorem cS_2 (C : Kx p s m args meth c prog_11_method_4_code 1 "DearerByUseModel" D tc h) (hl : lv_has ls 1 [(0, .ref h)]) (hP : va_P D vwCl (wl 1 (adM h) tc μ) H) (hS : va_S (fun q => h ≤ q) s.heap H locs) (kk : ∀ (H1 : Heap) (locs1 : List Loc), va_P D vwCl (wl 1 (adM h) tc (spl μ 2)) H1 → va_S (fun q => h ≤ q) s.heap H1 locs1 → W p l e { frames := 10, cells := 25, slots := 3461, locals := 1000 } s m args below meth c H1 locs1 25 3461 Z (F0 m 280 ls [])) : W p l e { frames := 10, cells := 25, slots := 3461, locals := 1000 } s m args below meth c H locs 25 3461 Z (F0 m 258 ls []) := by
  have hx := C.1.1
  have hb := C.1.2.1
  refine lv_aload_n hx hb (dk dl_M_ok 133 rfl) rfl (lv_at hl 0 rfl) ?_
  refine lv_bipush (v := 16) hx hb (dk dl_M_ok 134 rfl) (by decide) ?_
  refine lv_bipush (v := 48) hx hb (dk dl_M_ok 135 rfl) (by decide) ?_
  refine lv_bipush (v := 32) hx hb (dk dl_M_ok 136 rfl) (by decide) ?_
  refine lv_bipush (v := 45) hx hb (dk dl_M_ok 137 rfl) (by decide) ?_
  refine lv_bipush (v := 32) hx hb (dk dl_M_ok 138 rfl) (by decide) ?_
  refine lv_bipush (v := 108) hx hb (dk dl_M_ok 139 rfl) (by decide) ?_
  refine lv_bipush (v := 101) hx hb (dk dl_M_ok 140 rfl) (by decide) ?_
  refine lv_bipush (v := 110) hx hb (dk dl_M_ok 141 rfl) (by decide) ?_
  refine lv_bipush (v := 103) hx hb (dk dl_M_ok 142 rfl) (by decide) ?_
  refine W.eq (g2 := F0 m 277 ls ((([.int 16, .int 48, .int 32, .int 45, .int 32, .int 108, .int 101, .int 110, .int 103] : List Value).map (cv (adM h) .null)).reverse ++ .ref (adM h 0) :: [])) rfl ?_
  refine amV (sd := 1) (d := 1) (y := y_M_spell) (k := 0) (nL := 1) C.1 (by decide) (show Value.category .null = 1 from rfl) (by decide +kernel) (by decide +kernel) (by decide +kernel) (by decide +kernel) (by decide +kernel) (by decide +kernel) (by decide +kernel) ⟨by decide +kernel, by decide +kernel⟩ ⟨(Nat.le_of_ble_eq_true rfl), (Nat.le_of_ble_eq_true rfl)⟩ (C.1.2.2.2.2 _ (wk cwM_ok 34 rfl)) trivial (spellC (i := 2) (by decide) (by decide) (by decide +kernel) (by decide +kernel) (by decide +kernel) (by decide +kernel) (by decide +kernel) (by decide +kernel) (by decide +kernel) (by decide +kernel)) C.2.1 trivial (hAM C) hP (dkM _) hS (Nat.le_of_ble_eq_true rfl) hl.1 (dk dl_M_ok 143 rfl) (fun r μ1 H locs hq hty hro hP hS _ => ?_)
  rw [show (inf y_M_spell).2.2.2.2.1 = none by decide +kernel]
  subst hq
  refine W.eq (g2 := F0 m 280 ls []) rfl ?_
  exact kk _ _ hP hS
set_option maxHeartbeats 4000000 in
theorem cS_3 (C : Kx p s m args meth c prog_11_method_4_code 1 "DearerByUseModel" D tc h) (hl : lv_has ls 1 [(0, .ref h)]) (hP : va_P D vwCl (wl 1 (adM h) tc μ) H) (hS : va_S (fun q => h ≤ q) s.heap H locs) (kk : ∀ (H1 : Heap) (locs1 : List Loc), va_P D vwCl (wl 1 (adM h) tc (spl μ 3)) H1 → va_S (fun q => h ≤ q) s.heap H1 locs1 → W p l e { frames := 10, cells := 25, slots := 3461, locals := 1000 } s m args below meth c H1 locs1 25 3461 Z (F0 m 302 ls [])) : W p l e { frames := 10, cells := 25, slots := 3461, locals := 1000 } s m args below meth c H locs 25 3461 Z (F0 m 280 ls []) := by
  have hx := C.1.1
  have hb := C.1.2.1
  refine lv_aload_n hx hb (dk dl_M_ok 144 rfl) rfl (lv_at hl 0 rfl) ?_
  refine lv_bipush (v := 24) hx hb (dk dl_M_ok 145 rfl) (by decide) ?_
  refine lv_bipush (v := 116) hx hb (dk dl_M_ok 146 rfl) (by decide) ?_
  refine lv_bipush (v := 104) hx hb (dk dl_M_ok 147 rfl) (by decide) ?_
  refine lv_bipush (v := 32) hx hb (dk dl_M_ok 148 rfl) (by decide) ?_
  refine lv_bipush (v := 59) hx hb (dk dl_M_ok 149 rfl) (by decide) ?_
  refine lv_bipush (v := 32) hx hb (dk dl_M_ok 150 rfl) (by decide) ?_
  refine lv_bipush (v := 109) hx hb (dk dl_M_ok 151 rfl) (by decide) ?_
  refine lv_bipush (v := 97) hx hb (dk dl_M_ok 152 rfl) (by decide) ?_
  refine lv_bipush (v := 121) hx hb (dk dl_M_ok 153 rfl) (by decide) ?_
  refine W.eq (g2 := F0 m 299 ls ((([.int 24, .int 116, .int 104, .int 32, .int 59, .int 32, .int 109, .int 97, .int 121] : List Value).map (cv (adM h) .null)).reverse ++ .ref (adM h 0) :: [])) rfl ?_
  refine amV (sd := 1) (d := 1) (y := y_M_spell) (k := 0) (nL := 1) C.1 (by decide) (show Value.category .null = 1 from rfl) (by decide +kernel) (by decide +kernel) (by decide +kernel) (by decide +kernel) (by decide +kernel) (by decide +kernel) (by decide +kernel) ⟨by decide +kernel, by decide +kernel⟩ ⟨(Nat.le_of_ble_eq_true rfl), (Nat.le_of_ble_eq_true rfl)⟩ (C.1.2.2.2.2 _ (wk cwM_ok 34 rfl)) trivial (spellC (i := 3) (by decide) (by decide) (by decide +kernel) (by decide +kernel) (by decide +kernel) (by decide +kernel) (by decide +kernel) (by decide +kernel) (by decide +kernel) (by decide +kernel)) C.2.1 trivial (hAM C) hP (dkM _) hS (Nat.le_of_ble_eq_true rfl) hl.1 (dk dl_M_ok 154 rfl) (fun r μ1 H locs hq hty hro hP hS _ => ?_)
  rw [show (inf y_M_spell).2.2.2.2.1 = none by decide +kernel]
  subst hq
  refine W.eq (g2 := F0 m 302 ls []) rfl ?_
  exact kk _ _ hP hS
set_option maxHeartbeats 4000000 in
theorem cS_4 (C : Kx p s m args meth c prog_11_method_4_code 1 "DearerByUseModel" D tc h) (hl : lv_has ls 1 [(0, .ref h)]) (hP : va_P D vwCl (wl 1 (adM h) tc μ) H) (hS : va_S (fun q => h ≤ q) s.heap H locs) (kk : ∀ (H1 : Heap) (locs1 : List Loc), va_P D vwCl (wl 1 (adM h) tc (spl μ 4)) H1 → va_S (fun q => h ≤ q) s.heap H1 locs1 → W p l e { frames := 10, cells := 25, slots := 3461, locals := 1000 } s m args below meth c H1 locs1 25 3461 Z (F0 m 324 ls [])) : W p l e { frames := 10, cells := 25, slots := 3461, locals := 1000 } s m args below meth c H locs 25 3461 Z (F0 m 302 ls []) := by
  have hx := C.1.1
  have hb := C.1.2.1
  refine lv_aload_n hx hb (dk dl_M_ok 155 rfl) rfl (lv_at hl 0 rfl) ?_
  refine lv_bipush (v := 32) hx hb (dk dl_M_ok 156 rfl) (by decide) ?_
  refine lv_bipush (v := 32) hx hb (dk dl_M_ok 157 rfl) (by decide) ?_
  refine lv_bipush (v := 49) hx hb (dk dl_M_ok 158 rfl) (by decide) ?_
  refine lv_bipush (v := 32) hx hb (dk dl_M_ok 159 rfl) (by decide) ?_
  refine lv_bipush (v := 59) hx hb (dk dl_M_ok 160 rfl) (by decide) ?_
  refine lv_bipush (v := 32) hx hb (dk dl_M_ok 161 rfl) (by decide) ?_
  refine lv_bipush (v := 32) hx hb (dk dl_M_ok 162 rfl) (by decide) ?_
  refine lv_bipush (v := 32) hx hb (dk dl_M_ok 163 rfl) (by decide) ?_
  refine lv_bipush (v := 32) hx hb (dk dl_M_ok 164 rfl) (by decide) ?_
  refine W.eq (g2 := F0 m 321 ls ((([.int 32, .int 32, .int 49, .int 32, .int 59, .int 32, .int 32, .int 32, .int 32] : List Value).map (cv (adM h) .null)).reverse ++ .ref (adM h 0) :: [])) rfl ?_
  refine amV (sd := 1) (d := 1) (y := y_M_spell) (k := 0) (nL := 1) C.1 (by decide) (show Value.category .null = 1 from rfl) (by decide +kernel) (by decide +kernel) (by decide +kernel) (by decide +kernel) (by decide +kernel) (by decide +kernel) (by decide +kernel) ⟨by decide +kernel, by decide +kernel⟩ ⟨(Nat.le_of_ble_eq_true rfl), (Nat.le_of_ble_eq_true rfl)⟩ (C.1.2.2.2.2 _ (wk cwM_ok 34 rfl)) trivial (spellC (i := 4) (by decide) (by decide) (by decide +kernel) (by decide +kernel) (by decide +kernel) (by decide +kernel) (by decide +kernel) (by decide +kernel) (by decide +kernel) (by decide +kernel)) C.2.1 trivial (hAM C) hP (dkM _) hS (Nat.le_of_ble_eq_true rfl) hl.1 (dk dl_M_ok 165 rfl) (fun r μ1 H locs hq hty hro hP hS _ => ?_)
  rw [show (inf y_M_spell).2.2.2.2.1 = none by decide +kernel]
  subst hq
  refine W.eq (g2 := F0 m 324 ls []) rfl ?_
  exact kk _ _ hP hS
theorem memI_w (μ : Mem) : (wI (wI (wI μ 2 (upd (μ.1 2) (0 : Int32).toNatClampNeg 40)) 0 (upd ((wI μ 2 (upd (μ.1 2) (0 : Int32).toNatClampNeg 40)).1 0) 3 1)) 11 (upd ((wI (wI μ 2 (upd (μ.1 2) (0 : Int32).toNatClampNeg 40)) 0 (upd ((wI μ 2 (upd (μ.1 2) (0 : Int32).toNatClampNeg 40)).1 0) 3 1)).1 11) (0 : Int32).toNatClampNeg 1)) = memI μ := rfl
set_option maxHeartbeats 4000000 in
theorem cE_M (C : Kx p s m args meth c prog_11_method_4_code 1 "DearerByUseModel" D tc h) (hl : lv_has ls 1 [(0, .ref h)]) (hP : va_P D vwCl (wl 1 (adM h) tc μ) H) (hS : va_S (fun q => h ≤ q) s.heap H locs) (kk : ∀ (H1 : Heap) (locs1 : List Loc), va_P D vwCl (wl 1 (adM h) tc (memI μ)) H1 → va_S (fun q => h ≤ q) s.heap H1 locs1 → W p l e { frames := 10, cells := 25, slots := 3461, locals := 1000 } s m args below meth c H1 locs1 25 3461 Z (F0 m 344 ls [])) : W p l e { frames := 10, cells := 25, slots := 3461, locals := 1000 } s m args below meth c H locs 25 3461 Z (F0 m 324 ls []) := by
  have hx := C.1.1
  have hb := C.1.2.1
  refine lv_aload_n hx hb (dk dl_M_ok 166 rfl) rfl (lv_at hl 0 rfl) ?_
  refine W.eq (g2 := F0 m 325 ls [.ref (adM h 0)]) rfl ?_
  refine w_get (k := 0) (j := 2) (v := .ref (adM h 2)) C.1 C.2.1 hP (Nat.le_of_ble_eq_true rfl) rfl (Nat.le_of_ble_eq_true rfl) (Nat.le_of_ble_eq_true rfl) rfl (wk cwM_ok 5 rfl) rfl (dk dl_M_ok 167 rfl) ?_
  refine lv_iconst (v := 0) hx hb (dk dl_M_ok 168 rfl) (by decide) ?_
  refine lv_bipush (v := 40) hx hb (dk dl_M_ok 169 rfl) (by decide) ?_
  refine w_iast (k := 2) (n := 6) (i := 0) (v := 40) C.1 C.2.1 hP (dkM _) hS (Nat.le_of_ble_eq_true rfl) rfl (by unfold vp_in; decide) (dk dl_M_ok 170 rfl) (fun H locs hP hS => ?_)
  refine lv_aload_n hx hb (dk dl_M_ok 171 rfl) rfl (lv_at hl 0 rfl) ?_
  refine W.eq (g2 := F0 m 333 ls [.ref (adM h 0)]) rfl ?_
  refine lv_iconst (v := 1) hx hb (dk dl_M_ok 172 rfl) (by decide) ?_
  refine w_put (k := 0) (j := 3) (v := 1) C.1 C.2.1 hP (dkM _) hS (Nat.le_of_ble_eq_true rfl) rfl (Nat.le_of_ble_eq_true rfl) (Nat.le_of_ble_eq_true rfl) rfl rfl (wk cwM_ok 35 rfl) (dk dl_M_ok 173 rfl) (fun H locs hP hS => ?_)
  refine lv_aload_n hx hb (dk dl_M_ok 174 rfl) rfl (lv_at hl 0 rfl) ?_
  refine W.eq (g2 := F0 m 338 ls [.ref (adM h 0)]) rfl ?_
  refine w_get (k := 0) (j := 16) (v := .ref (adM h 11)) C.1 C.2.1 hP (Nat.le_of_ble_eq_true rfl) rfl (Nat.le_of_ble_eq_true rfl) (Nat.le_of_ble_eq_true rfl) rfl (wk cwM_ok 14 rfl) rfl (dk dl_M_ok 175 rfl) ?_
  refine lv_iconst (v := 0) hx hb (dk dl_M_ok 176 rfl) (by decide) ?_
  refine lv_iconst (v := 1) hx hb (dk dl_M_ok 177 rfl) (by decide) ?_
  refine w_iast (k := 11) (n := 6) (i := 0) (v := 1) C.1 C.2.1 hP (dkM _) hS (Nat.le_of_ble_eq_true rfl) rfl (by unfold vp_in; decide) (dk dl_M_ok 178 rfl) (fun H locs hP hS => ?_)
  have hP := (congrArg (fun z => va_P D vwCl (wl 1 (adM h) tc z) H) (memI_w μ)).mp hP
  exact kk _ _ hP hS
end CK
set_option maxHeartbeats 4000000 in
theorem c_M (l : Launch) (D : va_G) (tc : Nat → Nat) (h : Nat) : Met l ⟨"DearerByUseModel", "<init>", "()V"⟩ (wsC ⟨"DearerByUseModel", "<init>", "()V"⟩ prog_11_method_4_code 1) { frames := 10, cells := 25, slots := 3461, locals := 1000 } (PcC D tc h 9 [.int 0, .null, .null, .int 0, .int 0, .null, .int 0, .null, .null, .null, .int 0, .null, .null, .null, .int 0, .null, .null, .int 0, .int 0, .int 0, .int 0, .int 0, .int 0, .int 0, .int 0, .int 0, .int 0, .int 0, .int 0, .int 0, .long 0, .int 0, .int 0, .int 0, .null, .null, .null, .null, .null, .null, .int 0, .int 0, .int 0, .int 0, .int 0, .null, .int 0, .int 0, .null, .null, .null, .int 0, .int 0, .int 0, .int 0, .int 0, .null, .null, .null, .null] [] (fun _ => True)) (QcM D tc h) 25 3461 (fun q => h ≤ q) := by
  refine ctorOf rfl rfl (Nat.le_of_ble_eq_true rfl) ?_
  intro p e s m below meth c ls C hl hB _
  have hx := C.1.1
  have hb := C.1.2.1
  have hl : lv_has ls 1 [(0, .ref h)] := hl
  refine lv_aload_n hx hb (dk dl_M_ok 0 rfl) rfl (lv_at hl 0 rfl) ?_
  refine k_obj C (wk cwM_ok 0 rfl) (wk cwM_ok 1 rfl) (wk cwM_ok 2 rfl) hl.1 (dk dl_M_ok 1 rfl) (Nat.le_of_ble_eq_true rfl) (Nat.le_of_ble_eq_true rfl) ?_
  refine cM_0 C hl hB (fun H locs hB => ?_)
  refine cM_1 C hl hB (fun H locs hB => ?_)
  refine cM_2 C hl hB (fun H locs hB => ?_)
  refine cM_3 C hl hB (fun H locs hB => ?_)
  refine cM_4 C hl hB (fun H locs hB => ?_)
  refine cM_5 C hl hB (fun H locs hB => ?_)
  refine cM_6 C hl hB (fun H locs hB => ?_)
  have hS := hB.2.2
  have hP := wl_of (sd := 1) (ad := adM h) (tc := tc) (μ := mem0) hB (esM_wl h tc) (fun _ _ => rfl)
  clear hB
  refine cS_0 C hl hP hS (fun H locs hP hS => ?_)
  refine cS_1 C hl hP hS (fun H locs hP hS => ?_)
  refine cS_2 C hl hP hS (fun H locs hP hS => ?_)
  refine cS_3 C hl hP hS (fun H locs hP hS => ?_)
  refine cS_4 C hl hP hS (fun H locs hP hS => ?_)
  refine cE_M C hl hP hS (fun H locs hP hS => ?_)
  exact W.vret hx hb C.2.2.2.2.1 (fun t ht _ => ⟨rfl, by rw [ht]; exact hP, hS.F ht⟩) hS.2.2 (dk dl_M_ok 179 rfl) C.2.2.2.1
