/-! ===== the start of the law ===== -/
def cwLaw : List (Nat × Cond) := [(244, Cond.instantiable "DearerByUse$Day" (12 : Nat)), (293, Cond.instantiable "DearerByUse$Image" (11 : Nat)), (150, Cond.instantiable "DearerByUse$Laws" (4 : Nat)), (176, Cond.instantiable "DearerByUse$Reader" (10 : Nat)), (334, Cond.instantiable "DearerByUse$Sheets" (3 : Nat)), (216, Cond.instantiable "DearerByUse$Texts" (6 : Nat)), (90, Cond.instantiable "DearerByUse$Words" (4 : Nat)), (119, Cond.instantiable "DearerByUse$Writers" (4 : Nat)), (82, Cond.instantiable "DearerByUse" (9 : Nat)), (917, Cond.instantiable "DearerByUseModel" (60 : Nat)), (117, Cond.arrayClass FieldType.int), (1106, Cond.arrayClass FieldType.long), (1107, Cond.arrayClass FieldType.boolean), (579, Cond.arrayClass FieldType.byte), (81, Cond.classLink "DearerByUseLaw" (7 : Nat) "DearerByUse"), (64, Cond.initialized "DearerByUse"), (85, Cond.code ({ cls := "DearerByUse", name := "<init>", desc := "()V" } : MethodName) prog_1_method_1_code (1 : Nat) (Option.none : Option Jvm.ClassFile.FieldType)), (83, Cond.methodLink "DearerByUseLaw" (9 : Nat) ({ cls := "DearerByUse", name := "<init>", desc := "()V" } : MethodName)), (84, Cond.instanceMethod ({ cls := "DearerByUse", name := "<init>", desc := "()V" } : MethodName)), (916, Cond.classLink "DearerByUseLaw" (10 : Nat) "DearerByUseModel"), (80, Cond.initialized "DearerByUseModel"), (920, Cond.code ({ cls := "DearerByUseModel", name := "<init>", desc := "()V" } : MethodName) prog_11_method_4_code (1 : Nat) (Option.none : Option Jvm.ClassFile.FieldType)), (918, Cond.methodLink "DearerByUseLaw" (12 : Nat) ({ cls := "DearerByUseModel", name := "<init>", desc := "()V" } : MethodName)), (919, Cond.instanceMethod ({ cls := "DearerByUseModel", name := "<init>", desc := "()V" } : MethodName))]
set_option maxRecDepth 100000 in
theorem cwLaw_ok : cwLaw.all wOk = true := by decide +kernel
def dl_Law : List (Nat × Instr × Nat) := [(0, .new 7, 3), (3, .dup, 1), (4, .invokespecial 9, 3), (7, .astore_n 1, 1), (8, .new 10, 3), (11, .dup, 1), (12, .invokespecial 12, 3), (15, .astore_n 2, 1), (16, .iconst 0, 1), (17, .istore_n 3, 1)]
theorem dl_Law_ok : dl_Law.all (dOk code) = true := by decide +kernel
theorem ov_Law : Cond.arrayOver (.array .int) ∈ lw_tbl := List.mem_of_getElem? (i := 96) (by decide +kernel)
theorem ins_Law : ∀ ci : Nat, ci < 10 → Cond.instantiable (clT ci).1 (clT ci).2.2 ∈ gT := by
  intro ci h
  match ci, h with
  | 0, _ => exact wk cwLaw_ok 0 rfl
  | 1, _ => exact wk cwLaw_ok 1 rfl
  | 2, _ => exact wk cwLaw_ok 2 rfl
  | 3, _ => exact wk cwLaw_ok 3 rfl
  | 4, _ => exact wk cwLaw_ok 4 rfl
  | 5, _ => exact wk cwLaw_ok 5 rfl
  | 6, _ => exact wk cwLaw_ok 6 rfl
  | 7, _ => exact wk cwLaw_ok 7 rfl
  | 8, _ => exact wk cwLaw_ok 8 rfl
  | 9, _ => exact wk cwLaw_ok 9 rfl
  | n + 10, h => exact absurd h (by omega)
def tcLaw (c0 c1 c2 c3 c4 : Nat) : Nat → Nat := fun k => nth 0 [c0, c1, c2, c3, c4] k
theorem arr_Law {s : State} {a : Array Value} {ty : FieldType} (h : (Cond.arrayClass ty).before a s = true) : ∃ cA : Nat, ArrOfT s cA ty ∧ s.vm.findClass ("[" ++ ty.toString) = some cA := by
  obtain ⟨cA, k, comp, h1, h2, h3⟩ := Cond.arrayClass_spec h
  exact ⟨cA, fun n z => ⟨fun k h => (by cases h), k, h2, comp, h3⟩, h1⟩
/-- the classes' numbers, as the tables have them -/
theorem kn_Law {s : State} {a : Array Value} (hts : ∀ w ∈ lw_tbl, w.before a s = true) : ∃ (D : va_G) (tc : Nat → Nat), va_K D vwCl (tysA tc) s ∧ AO s tc := by
  have hg : ∀ w ∈ gT, w.before a s = true := fun w hw => hts w (List.mem_filter.mp hw).1
  have hc : ∀ ci : Nat, ∃ (cC : ClassId) (iS : Nat → Nat), ci < 10 → u_Kn s (clT ci).1 (clT ci).2.1 (clT ci).2.2 cC iS := by
    intro ci
    by_cases h : ci < 10
    · obtain ⟨cC, iS, z⟩ := u_known (n := (clT ci).2.2) hg (cl_in h) (hg _ (ins_Law ci h))
      exact ⟨cC, iS, fun _ => z⟩
    · exact ⟨0, fun _ => 0, fun z => absurd z h⟩
  obtain ⟨c0, a0, r0⟩ := arr_Law (hg (Cond.arrayClass .int) (wk cwLaw_ok 10 rfl))
  obtain ⟨c1, a1, r1⟩ := arr_Law (hg (Cond.arrayClass .long) (wk cwLaw_ok 11 rfl))
  obtain ⟨c2, a2, r2⟩ := arr_Law (hg (Cond.arrayClass .boolean) (wk cwLaw_ok 12 rfl))
  obtain ⟨c3, a3, r3⟩ := arr_Law (hg (Cond.arrayClass .byte) (wk cwLaw_ok 13 rfl))
  obtain ⟨cI, c4, k4, f1, f2, f3, f4⟩ := over_spec (hts _ ov_Law)
  have e0 : cI = c0 := Option.some.inj (f1.symm.trans r0)
  rw [e0] at f3
  refine ⟨(fun ci => (hc ci).choose, fun ci => (hc ci).choose_spec.choose), tcLaw c0 c1 c2 c3 c4, ⟨fun ci q hq => ?_, fun k q hq => ?_⟩, k4, f2, f3⟩
  · have h10 : ci < 10 := (List.getElem?_eq_some_iff.mp hq).1
    have e : clT ci = q := Option.some.inj ((cl_get h10).symm.trans hq)
    rw [← e]
    exact (hc ci).choose_spec.choose_spec h10
  · match k, hq with
    | 0, hq => rw [← Option.some.inj (show some (c0, FieldType.int) = some q from hq)]; exact ⟨a0, r0⟩
    | 1, hq => rw [← Option.some.inj (show some (c1, FieldType.long) = some q from hq)]; exact ⟨a1, r1⟩
    | 2, hq => rw [← Option.some.inj (show some (c2, FieldType.boolean) = some q from hq)]; exact ⟨a2, r2⟩
    | 3, hq => rw [← Option.some.inj (show some (c3, FieldType.byte) = some q from hq)]; exact ⟨a3, r3⟩
    | 4, hq => rw [← Option.some.inj (show some (c4, FieldType.array .int) = some q from hq)]; exact ⟨fun n z => ⟨fun k h => (by cases h), k4, f2, c0, f3⟩, f4⟩
    | k + 5, hq => cases hq
section ST
variable {p : Program} {l : Launch} {e : Env} {R : Room} {s : State} {m : MethodId} {args : Array Value} {below : List Frame} {meth : Method} {c : Code} {A : Nat → Prop} {Z : State → Prop} {H : Heap} {locs : List Loc} {pc ca sl mc ms h : Nat} {ls : Array Slot} {st0 rest : List Value} {av : Array Value} {P : Heap → Prop} {Qc : Array Value → State → Outcome → State → Prop}
/-- a constructor's run, from the law -/
theorem run_Law (hr : va_Run p l e R s m args below meth c H locs ca sl mc ms (F0 m pc ls st0) rest (Qc av) (fun q => h ≤ q)) (hQ : ∀ st oc u, Qc av st oc u → oc = .returned none ∧ P u.heap ∧ va_F (fun q => h ≤ q) st u) (hS : va_S A s.heap H locs) (hA : ∀ q, h ≤ q → A q)
    (kk : ∀ (H1 : Heap) (locs1 : List Loc), P H1 → va_S A s.heap H1 locs1 → H.size ≤ H1.size → (∀ q, q < H.size → ¬ h ≤ q → H1[q]? = H[q]?) → W p l e R s m args below meth c H1 locs1 (ca + mc) (sl + ms) Z (F0 m (pc + 3) ls rest)) : W p l e R s m args below meth c H locs ca sl Z (F0 m pc ls st0) := by
  intro T hT X
  obtain ⟨v, st₀, u, T', L, h0, X', hL, e1, e2, hq, st⟩ := hr T hT X
  obtain ⟨hv, hP, hz, hk⟩ := hQ _ _ _ hq
  cases hv
  rw [h0] at hz hk
  obtain ⟨t2, a1, b1⟩ := kk T'.heap (locs ++ L) (by rw [e1]; exact hP)
    ⟨Nat.le_trans hS.1 (by rw [e1]; exact hz), fun q h1 h2 => by rw [e1, hk q (Nat.lt_of_lt_of_le h1 hS.1) (fun z => h2 (hA q z))]; exact hS.2.1 q h1 h2, fun q hq => by
      rcases List.mem_append.mp hq with z | z
      · exact hS.2.2 q z
      · exact hA _ (hL q z)⟩ (by rw [e1]; exact hz) (fun q h1 h2 => by rw [e1]; exact hk q h1 h2) T' rfl X'
  exact ⟨t2, st t2 a1, b1⟩
end ST
theorem whole_start {p : Program} {e : Env} {s : State} {m : MethodId} {below : List Frame} {meth : Method} {c : Code} (l : Launch) (hflags : l.flags = flags0) {b L : Nat} {xs : Nat → Int32} (hL : L ≤ 3072) (C0 : lw_At p s m meth c b L xs) : W p l e room_1 s m #[Value.ref b] below meth c s.heap [] 0 0 (lw_Z below #[Value.ref b] s) (entryFrame m ([Value.ref b] : List Value).toArray 4) := by
  have C0' := C0
  obtain ⟨hx, hb, hr, hml, hown, hts, hX, hbl, hlocks, hgv⟩ := C0'
  obtain ⟨D, tc, hK, hAO⟩ := kn_Law hts
  obtain ⟨a5, aK, aV, fz, hfz, hRO⟩ := constsAt C0
  have hg : ∀ w ∈ gT, w.before #[Value.ref b] s = true := fun w hw => hts w (List.mem_filter.mp hw).1
  have hfix : CallFix p m c code 4 s #[Value.ref b] gT R_law := ⟨hx, hb, hml, hown, hg⟩
  obtain ⟨h, hh⟩ : ∃ h, s.heap.size = h := ⟨_, rfl⟩
  have hRO := hRO (adX h a5 aK aV) rfl (fun i hi => by
    rcases (show i = 0 ∨ i = 1 ∨ i = 2 by omega) with q | q | q <;> subst q <;> exact ⟨rfl, rfl⟩)
  have hNs : nests s := fun q hq => va_Nw.of rfl (hts _ (nest_tbl q hq))
  have hl := lv_entry ([.ref b]) (n := 4) (Nat.le_of_ble_eq_true rfl)
  rw [lg_entry_eq]
  generalize (lg_sl ([.ref b]) ++ List.replicate (4 - (lg_sl ([.ref b])).length) Slot.unset).toArray = ls at hl ⊢
  have hl : lv_has ls 4 [(0, .ref b)] := hl
  refine r_new (ci := 8) (fs := [.null, .null, .null, .null, .null, .null, .null, .null, .null]) hfix hK (Nat.le_of_ble_eq_true rfl) (wk cwLaw_ok 14 rfl) (wk cwLaw_ok 8 rfl) (wk cwLaw_ok 15 rfl) (by decide +kernel) (Nat.le_of_ble_eq_true rfl) (Nat.le_of_ble_eq_true rfl) (dk dl_Law_ok 0 rfl) (fun H z1 o1 at1 => ?_)
  rw [hh] at z1 at1 ⊢
  refine W.widen (k := 1) (n := 9) (Nat.le_of_ble_eq_true rfl) (Nat.le_of_ble_eq_true rfl) ?_
  refine lv_dup hx hb (dk dl_Law_ok 1 rfl) rfl ?_
  have hS : va_S (fun q : Nat => s.heap.size ≤ q) s.heap H [] := ⟨by omega, fun q z _ => o1 q z, fun _ z => absurd z List.not_mem_nil⟩
  refine run_Law (P := fun H => ∃ x, R tx0 x memM ∧ ROm 0 x ∧ va_P D vwCl (wl 0 (adX h a5 aK aV) tc x) H) (va_runI (As := []) (b := h) (rest := [.ref h]) hfix (c_D l D tc h a5 aK aV fz hfz) (cwI 0 hg (wsC_good (wk cwLaw_ok 16 rfl)) rfl rfl rfl (hg _ (wk cwLaw_ok 15 rfl)) (hg _ (wk cwLaw_ok 17 rfl)) (hg _ (wk cwLaw_ok 18 rfl)) rfl ⟨by decide, by decide, by decide +kernel⟩ ⟨(Nat.le_of_ble_eq_true rfl), (Nat.le_of_ble_eq_true rfl)⟩) ⟨PcC_blind XD_blind, fun U hU hW => ⟨rfl, by rw [hU]; exact z1, by rw [hU]; exact at1, va_K.moved hW.alike hK, AO.moved hW.alike hAO, ⟨by rw [hU]; exact ((hRO.kept hS.2.1).narrow (fun q z => by show s.heap.size ≤ q; omega)).warm hW, fun q hq => (hNs q hq).warmM hW⟩⟩⟩ rfl rfl hl.1 rfl (lv_room (Nat.le_of_ble_eq_true rfl)) (dk dl_Law_ok 2 rfl) ⟨(Nat.le_of_ble_eq_true rfl), (Nat.le_of_ble_eq_true rfl)⟩) (fun _ _ _ z => z) hS (fun q z => by show s.heap.size ≤ q; omega) (fun H2 locs2 hP2 hS2 hz2 _ => ?_)
  obtain ⟨x, hR, hROm, hPX⟩ := hP2
  clear z1 at1 o1 hS
  refine lv_astore_n (i := 1) (nL := 4) (x := h) (lv' := [(1, .ref h), (0, .ref b)]) hx hb (dk dl_Law_ok 3 rfl) rfl hl (by decide) rfl (fun ls hl => ?_)
  refine r_new (ci := 9) (fs := [.int 0, .null, .null, .int 0, .int 0, .null, .int 0, .null, .null, .null, .int 0, .null, .null, .null, .int 0, .null, .null, .int 0, .int 0, .int 0, .int 0, .int 0, .int 0, .int 0, .int 0, .int 0, .int 0, .int 0, .int 0, .int 0, .long 0, .int 0, .int 0, .int 0, .null, .null, .null, .null, .null, .null, .int 0, .int 0, .int 0, .int 0, .int 0, .null, .int 0, .int 0, .null, .null, .null, .int 0, .int 0, .int 0, .int 0, .int 0, .null, .null, .null, .null]) hfix hK (Nat.le_of_ble_eq_true rfl) (wk cwLaw_ok 19 rfl) (wk cwLaw_ok 9 rfl) (wk cwLaw_ok 20 rfl) (by decide +kernel) (Nat.le_of_ble_eq_true rfl) (Nat.le_of_ble_eq_true rfl) (dk dl_Law_ok 4 rfl) (fun H3 z1 o1 at1 => ?_)
  refine W.widen (k := 66) (n := 1851) (Nat.le_of_ble_eq_true rfl) (Nat.le_of_ble_eq_true rfl) ?_
  refine lv_dup hx hb (dk dl_Law_ok 5 rfl) rfl ?_
  have hS3 : va_S (fun q : Nat => s.heap.size ≤ q) s.heap H3 locs2 := ⟨Nat.le_trans hS2.1 (by omega), fun q h1 h2 => (o1 q (Nat.lt_of_lt_of_le h1 hS2.1)).trans (hS2.2.1 q h1 h2), hS2.2.2⟩
  refine run_Law (P := fun H => va_P D vwCl (wl 1 (adM H2.size) tc memM) H) (va_runI (As := []) (b := H2.size) (rest := [.ref H2.size]) hfix (c_M l D tc H2.size) (cwI 0 hg (wsC_good (wk cwLaw_ok 21 rfl)) rfl rfl rfl (hg _ (wk cwLaw_ok 20 rfl)) (hg _ (wk cwLaw_ok 22 rfl)) (hg _ (wk cwLaw_ok 23 rfl)) rfl ⟨by decide, by decide, by decide +kernel⟩ ⟨(Nat.le_of_ble_eq_true rfl), (Nat.le_of_ble_eq_true rfl)⟩) ⟨PcC_blind (fun _ _ _ _ z => z), fun U hU hW => ⟨rfl, by rw [hU]; exact z1, by rw [hU]; exact at1, va_K.moved hW.alike hK, AO.moved hW.alike hAO, trivial⟩⟩ rfl rfl hl.1 rfl (lv_room (Nat.le_of_ble_eq_true rfl)) (dk dl_Law_ok 6 rfl) ⟨(Nat.le_of_ble_eq_true rfl), (Nat.le_of_ble_eq_true rfl)⟩) (fun _ _ _ z => z) hS3 (fun q z => Nat.le_trans hS2.1 z) (fun H4 locs4 hPM hS4 hz4 hk4 => ?_)
  have hPX4 : va_P D vwCl (wl 0 (adX h a5 aK aV) tc x) H4 := fun k q hq => by
    have z := hPX k q hq
    exact z.kept ((hk4 q.1 (by have := z.lt; omega) (Nat.not_le.mpr z.lt)).trans (o1 q.1 z.lt))
  have hap : ∀ i j, i < 65 → j < 26 → adX h a5 aK aV i ≠ adM H2.size j := by
    intro i j hi hj z
    have h1 : adX h a5 aK aV i < H2.size := (hPX i _ (wl_get hi)).lt
    rw [z] at h1
    have h2 : H2.size + j < H2.size := h1
    omega
  have F : LF s D (adX h a5 aK aV) (adM H2.size) tc fz := ⟨hK, hRO, fun μ => wl_Dk (b := h) (fun k hk => adX_k hk) (fun q z => by show s.heap.size ≤ q; omega), fun μ => wl_Dk (b := H2.size) (fun _ _ => rfl) (fun q z => Nat.le_trans hS2.1 z), hap, hfz⟩
  refine lv_astore_n (i := 2) (nL := 4) (x := H2.size) (lv' := [(2, .ref H2.size), (1, .ref h), (0, .ref b)]) hx hb (dk dl_Law_ok 7 rfl) rfl hl (by decide) rfl (fun ls hl => ?_)
  refine lv_iconst (v := 0) hx hb (dk dl_Law_ok 8 rfl) (by decide) ?_
  refine lv_istore_n (i := 3) (nL := 4) (x := 0) (lv' := [(3, .int 0), (2, .ref H2.size), (1, .ref h), (0, .ref b)]) hx hb (dk dl_Law_ok 9 rfl) rfl hl (by decide) rfl (fun ls hl => ?_)
  have hl : lv_has ls 4 [(0, .ref b), (1, .ref (adX h a5 aK aV 0)), (2, .ref (adM H2.size 0)), (3, .int (nI 0))] := lv_sub hl [3, 2, 1, 0] rfl
  exact lawLoop C0 F hL ⟨Nat.le_of_ble_eq_true rfl, Nat.le_of_ble_eq_true rfl⟩ L 0 x memM tx0 H4 locs4 ls (Nat.zero_le _) (by omega) ⟨hPX4, hPM, hS4, hROm⟩ hR hl
