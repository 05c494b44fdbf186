/-! ===== one step, kind by kind ===== -/
def rvl (t : Option FieldType) (r : Value) : Option Value := match t with
  | none => none
  | some _ => some r
def QcA (D : va_G) (ad tc : Nat → Nat) (A : Nat → Prop) (sd : Nat) (t : Option FieldType) (Q : QQ) : Array Value → State → Outcome → State → Prop := fun _ st oc u => (∃ r μ', oc = .returned (rvl t r) ∧ Q r μ' ∧ ROm sd μ' ∧ va_P D vwCl (wl sd ad tc μ') u.heap) ∧ va_F A st u
def PcA (D : va_G) (ad tc : Nat → Nat) (fz : Value) (sd : Nat) (as : List Value) (μ : Mem) (sz : Nat) : Array Value → State → Prop := va_Pc (as.map (cv ad fz)) (fun U => U.heap.size = sz ∧ va_P D vwCl (wl sd ad tc μ) U.heap ∧ va_K D vwCl (tysA tc) U ∧ va_D (fun _ => True) (wl sd ad tc μ) ∧ ROs sd ad fz (va_A (wl sd ad tc μ) sz) U U.heap)
theorem PcA_blind {D : va_G} {ad tc : Nat → Nat} {fz : Value} {sd : Nat} {as : List Value} {μ : Mem} {sz : Nat} : FrameBlind (PcA D ad tc fz sd as μ sz) := fun a U g mk q => by
  obtain ⟨q0, q1, qP, qK, qD, qR⟩ := q
  exact ⟨q0, q1, qP, va_K.moved (u := U) (U := U.calling g mk a) (Vm.Alike.refl U.vm) qK, qD, ROs.same (U := U.calling g mk a) rfl qR⟩
/-- what a method's row says -/
theorem mOk_spec {y : Nat} (h : mOk y = true) : cod y = .code (mnm y) (bc y) (inf y).2.2.1 (inf y).2.2.2.2.1 ∧ Cond.initialized (mnm y).cls ∈ gT ∧ (mnm y).cls = cnm (inf y).2.1 ∧ plainName (mnm y).cls = true ∧ ((mnm y).cls ≠ "java/lang/invoke/MethodHandle" ∧ (mnm y).cls ≠ "java/lang/invoke/VarHandle") ∧ (inf y).2.2.1 ≤ 12 ∧
    ((inf y).2.2.2.2.2 = 1 → Cond.static (mnm y) ∈ gT ∧ (parseMethodDescriptor (mnm y).desc).map (fun d => d.parameters.length) = some (inf y).2.2.2.1) ∧
    (¬ (inf y).2.2.2.2.2 = 1 → Cond.instanceMethod (mnm y) ∈ gT ∧ Cond.selects (mnm y).cls (mnm y) (mnm y) ∈ gT ∧ 1 ≤ (inf y).2.2.2.1 ∧ (parseMethodDescriptor (mnm y).desc).map (fun d => d.parameters.length) = some ((inf y).2.2.2.1 - 1)) := by
  unfold mOk at h
  generalize nth (0, 0, 0, 0) mpsL y = q at h
  obtain ⟨a, b, c, e⟩ := q
  dsimp only at h
  simp only [Bool.and_eq_true] at h
  obtain ⟨⟨⟨⟨⟨⟨h1, h2⟩, h3⟩, h4⟩, h5⟩, h6⟩, h7⟩ := h
  have hcod : cod y = .code (mnm y) (bc y) (inf y).2.2.1 (inf y).2.2.2.2.1 := by
    have hb : bc y = match cod y with
      | .code _ b _ _ => b
      | _ => ⟨#[]⟩ := rfl
    generalize cod y = w at h1 hb ⊢
    cases w <;> first | (cases h1; done) | skip
    simp only [Bool.and_eq_true] at h1
    obtain ⟨⟨g1, g2⟩, g3⟩ := h1
    rw [hb, of_decide_eq_true g1, Nat.eq_of_beq_eq_true g2, of_decide_eq_true g3]
  refine ⟨hcod, gT_of h2 rfl (fun q => by cases q), of_decide_eq_true h3, h4, of_decide_eq_true h5, Nat.le_of_ble_eq_true h6, fun hs => ?_, fun hs => ?_⟩
  · rw [hs] at h7
    simp only [Bool.and_eq_true] at h7
    exact ⟨gT_of h7.1 rfl (fun q => by cases q), of_decide_eq_true h7.2⟩
  · split at h7
    · rename_i q
      exact absurd q hs
    · simp only [Bool.and_eq_true] at h7
      obtain ⟨⟨⟨g1, g2⟩, g3⟩, g4⟩ := h7
      exact ⟨gT_of g1 rfl (fun q => by cases q), gT_of g2 rfl (fun q => by cases q), Nat.le_of_ble_eq_true g3, of_decide_eq_true g4⟩
theorem code_in {y : Nat} (h : mOk y = true) : Cond.code (mnm y) (bc y) (inf y).2.2.1 (inf y).2.2.2.2.1 ∈ gT := by
  have h1 := (mOk_spec h).1
  refine List.mem_filter.mpr ⟨?_, rfl⟩
  rw [← h1]
  refine List.mem_of_getElem? (i := (nth (0, 0, 0, 0) mpsL y).1) (nth_ne ?_)
  rw [show nth .tt lw_tbl (nth (0, 0, 0, 0) mpsL y).1 = cod y from rfl, h1]
  exact fun q => by cases q
theorem good_gT {w : Cond} (h : w ∈ gT) : goodWord w = true := (List.mem_filter.mp h).2
theorem wsY_good {y : Nat} (h : mOk y = true) : GoodIn gT (wsY y) := by
  intro w hw
  rcases List.mem_cons.mp hw with e | e
  · rw [e]
    exact ⟨code_in h, good_of_word rfl⟩
  · exact ⟨e, good_of_word (good_gT e)⟩
section RUN
variable {p : Program} {l : Launch} {e : Env} {R : Room} {s : State} {m : MethodId} {args : Array Value} {below : List Frame} {meth : Method} {c : Code} {D : va_G} {ad tc : Nat → Nat} {fz : Value} {A A1 : Nat → Prop} {sd : Nat} {Z : State → Prop} {H : Heap} {locs : List Loc} {pc : Nat} {ls : Array Slot} {st0 rest : List Value} {free : Addr → Prop} {Q : QQ} {t : Option FieldType} {as : Array Value}
theorem runA (hr : va_Run p l e R s m args below meth c H locs 0 0 0 0 (F0 m pc ls st0) rest (QcA D ad tc A1 sd t Q as) free) (hS : va_S A s.heap H locs) (hA : ∀ q, q < H.size → A1 q → A q) (hf : ∀ q, free q → A q)
    (kk : ∀ (r : Value) (μ' : Mem) (H1 : Heap) (locs1 : List Loc), Q r μ' → ROm sd μ' → va_P D vwCl (wl sd ad tc μ') H1 → va_S A s.heap H1 locs1 → W p l e R s m args below meth c H1 locs1 0 0 Z (F0 m (pc + 3) ls ((rvl t r).toList ++ rest))) : W p l e R s m args below meth c H locs 0 0 Z (F0 m pc ls st0) := by
  intro T hT X
  obtain ⟨v, st₀, u, T', L, h0, X', hL, e1, e2, ⟨⟨r, μ', hv, hq, hro, hP⟩, hz, hk⟩, st⟩ := hr T hT X
  cases hv
  rw [h0] at hz hk
  obtain ⟨t2, a1, b1⟩ := kk r μ' T'.heap (locs ++ L) hq hro (by rw [e1]; exact hP)
    ⟨Nat.le_trans hS.1 (by rw [e1]; exact hz), fun q h1 h2 => by rw [e1, hk q (Nat.lt_of_lt_of_le h1 hS.1) (fun z => h2 (hA q (Nat.lt_of_lt_of_le h1 hS.1) z))]; exact hS.2.1 q h1 h2, fun q hq => by
      rcases List.mem_append.mp hq with h | h
      · exact hS.2.2 q h
      · exact hf _ (hL q h)⟩ T' rfl X'
  exact ⟨t2, st t2 a1, b1⟩
end RUN
theorem inf_lt {y : Nat} (h : (inf y).1 ≠ 9) : y < 200 := by
  by_cases hy : y < 200
  · exact hy
  · refine absurd ?_ h
    unfold inf
    rw [nth_ge (show infL.length ≤ y from Nat.le_trans (by decide +kernel) (Nat.le_of_not_lt hy))]
/-! layouts -/
theorem vin0 {j : Int32} (h : vp_in j 0) : False := h (Or.inr (Nat.zero_le _))
theorem ilen_inv {sd k : Nat} {j : Int32} (h : vp_in j (ilen sd k)) : ∃ n b, lay sd k = (1, n, b) ∧ ilen sd k = n := by
  unfold ilen at h ⊢
  split at h
  · rename_i n b e
    exact ⟨n, b, e, rfl⟩
  · exact (vin0 h).elim
theorem wlen_inv {sd k : Nat} {j : Int32} (h : vp_in j (wlen sd k)) : ∃ n, lay sd k = (1, n, 0) ∧ wlen sd k = n := by
  unfold wlen at h ⊢
  split at h
  · rename_i n e
    exact ⟨n, e, rfl⟩
  · exact (vin0 h).elim
theorem llen_inv {sd k : Nat} {j : Int32} (h : vp_in j (llen sd k)) : ∃ n b, lay sd k = (2, n, b) ∧ llen sd k = n := by
  unfold llen at h ⊢
  split at h
  · rename_i n b e
    exact ⟨n, b, e, rfl⟩
  · exact (vin0 h).elim
theorem zlen_inv {sd k : Nat} {j : Int32} (h : vp_in j (zlen sd k)) : ∃ n b, lay sd k = (3, n, b) ∧ zlen sd k = n := by
  unfold zlen at h ⊢
  split at h
  · rename_i n b e
    exact ⟨n, b, e, rfl⟩
  · exact (vin0 h).elim
theorem alen_inv {sd k : Nat} {j : Int32} (h : vp_in j (alen sd k)) : ∃ n c, lay sd k = (5, n, c) ∧ alen sd k = n ∧ achild sd k = c := by
  unfold alen at h
  split at h
  · rename_i n b e
    exact ⟨n, b, e, by unfold alen; rw [e]; rfl, by unfold achild; rw [e]; rfl⟩
  · exact (vin0 h).elim
theorem lay_pos {sd k t n b : Nat} (h : lay sd k = (t, n, b)) (ht : t ≠ 9) : k < Nw sd ∨ (sd = 0 ∧ (k = 65 ∨ k = 66 ∨ k = 67 ∨ k = 68 ∨ k = 69 ∨ k = 70 ∨ k = 71)) := by
  unfold lay at h
  match sd, h with
  | 0, h =>
    by_cases hk : k < 65
    · exact Or.inl hk
    · right
      refine ⟨rfl, ?_⟩
      by_cases h72 : k < 72
      · omega
      · have h : nth (9, 0, 0) layX k = (t, n, b) := h
        rw [nth_ge (show layX.length ≤ k from Nat.le_trans (by decide) (Nat.le_of_not_lt h72))] at h
        cases h
        exact absurd rfl ht
  | sd + 1, h =>
    by_cases hk : k < 26
    · exact Or.inl hk
    · have h : nth (9, 0, 0) layM k = (t, n, b) := h
      rw [nth_ge (show layM.length ≤ k from Nat.le_trans (by decide) (Nat.le_of_not_lt hk))] at h
      cases h
      exact absurd rfl ht
theorem lay_arr {sd k n b : Nat} (h : lay sd k = (1, n, b)) : k < Nw sd ∨ (sd = 0 ∧ k = 65 ∧ n = 6 ∧ b = 1) := by
  rcases lay_pos h (by decide) with h1 | ⟨h1, h2⟩
  · exact Or.inl h1
  · subst h1
    rcases h2 with rfl | rfl | rfl | rfl | rfl | rfl | rfl <;> first | (right; cases h; exact ⟨rfl, rfl, rfl, rfl⟩) | (cases h; done)
theorem lay_byte {sd k n b : Nat} (h : lay sd k = (4, n, b)) (hN : ¬ k < Nw sd) : sd = 0 ∧ ∃ i, i < 3 ∧ k = 67 + 2 * i ∧ n = sLen.getD i 0 := by
  rcases lay_pos h (by decide) with h1 | ⟨h1, h2⟩
  · exact absurd h1 hN
  · subst h1
    rcases h2 with rfl | rfl | rfl | rfl | rfl | rfl | rfl <;> first | (cases h; exact ⟨rfl, 0, by decide, rfl, rfl⟩) | (cases h; exact ⟨rfl, 1, by decide, rfl, rfl⟩) | (cases h; exact ⟨rfl, 2, by decide, rfl, rfl⟩) | (cases h; done)
theorem lay_Nw {sd k t n b : Nat} (h : lay sd k = (t, n, b)) (ht : t = 2 ∨ t = 3 ∨ t = 5) : k < Nw sd := by
  rcases lay_pos h (by omega) with h1 | ⟨h1, h2⟩
  · exact h1
  · subst h1
    rcases h2 with rfl | rfl | rfl | rfl | rfl | rfl | rfl <;> (cases h; omega)
theorem lay_obj {sd k n b : Nat} (h : lay sd k = (0, n, b)) : k < Nw sd ∨ (sd = 0 ∧ ∃ i, i < 3 ∧ k = 66 + 2 * i ∧ n = 10) := by
  rcases lay_pos h (by decide) with h1 | ⟨h1, h2⟩
  · exact Or.inl h1
  · subst h1
    rcases h2 with rfl | rfl | rfl | rfl | rfl | rfl | rfl <;> first | (cases h; exact Or.inr ⟨rfl, 0, by decide, rfl, rfl⟩) | (cases h; exact Or.inr ⟨rfl, 1, by decide, rfl, rfl⟩) | (cases h; exact Or.inr ⟨rfl, 2, by decide, rfl, rfl⟩) | (cases h; done)
theorem clsIs_inv {sd k c : Nat} (h : clsIs sd k c = true) : ∃ b, lay sd k = (0, c, b) := by
  unfold clsIs at h
  split at h
  · rename_i c' b e
    rw [Nat.eq_of_beq_eq_true h] at e
    exact ⟨b, e⟩
  · cases h
/-- objects: their class is one of ten, their fields are as many, and those that are written are no final ones -/
def objOk (sd k : Nat) : Bool := match lay sd k with
  | (0, c, _) => Nat.blt c 10 && Nat.beq (fl sd k).length (clT c).2.2 && (List.range (fl sd k).length).all (fun j => match nth (9, 0) (fl sd k) j with
    | (0, _) => !((clT c).2.1 j).2.2.2 && decide (parseFieldDescriptor ((clT c).2.1 j).2.2.1 = some .int)
    | (1, _) => !((clT c).2.1 j).2.2.2 && decide (parseFieldDescriptor ((clT c).2.1 j).2.2.1 = some .boolean)
    | (2, _) => !((clT c).2.1 j).2.2.2 && decide (parseFieldDescriptor ((clT c).2.1 j).2.2.1 = some .long)
    | _ => true)
  | _ => true
theorem objAll0 : (List.range 65).all (objOk 0) = true := by decide +kernel
theorem objAll1 : (List.range 26).all (objOk 1) = true := by decide +kernel
theorem lay_sd (sd k : Nat) : lay (sd + 1) k = lay 1 k := rfl
theorem fl_sd (sd k : Nat) : fl (sd + 1) k = fl 1 k := rfl
theorem objAll {sd k : Nat} (h : k < Nw sd) : objOk sd k = true := by
  match sd, h with
  | 0, h => exact List.all_eq_true.mp objAll0 k (List.mem_range.mpr h)
  | sd + 1, h =>
    have := List.all_eq_true.mp objAll1 k (List.mem_range.mpr h)
    unfold objOk at this ⊢
    rw [lay_sd, fl_sd]
    exact this
theorem obj_spec {sd k c b : Nat} (hk : k < Nw sd) (h : lay sd k = (0, c, b)) : c < 10 ∧ (fl sd k).length = (clT c).2.2 ∧ ∀ j q, (fl sd k)[j]? = some q → (q.1 = 0 → ((clT c).2.1 j).2.2.2 = false ∧ parseFieldDescriptor ((clT c).2.1 j).2.2.1 = some .int) ∧ (q.1 = 1 → ((clT c).2.1 j).2.2.2 = false ∧ parseFieldDescriptor ((clT c).2.1 j).2.2.1 = some .boolean) ∧ (q.1 = 2 → ((clT c).2.1 j).2.2.2 = false ∧ parseFieldDescriptor ((clT c).2.1 j).2.2.1 = some .long) := by
  have h1 := objAll hk
  unfold objOk at h1
  rw [h] at h1
  simp only [Bool.and_eq_true] at h1
  obtain ⟨⟨a1, a2⟩, a3⟩ := h1
  refine ⟨Nat.le_of_ble_eq_true a1, Nat.eq_of_beq_eq_true a2, fun j q hq => ?_⟩
  have h2 := List.all_eq_true.mp a3 j (List.mem_range.mpr (List.getElem?_eq_some_iff.mp hq).1)
  rw [nth_get hq] at h2
  obtain ⟨q1, q2⟩ := q
  refine ⟨fun e => ?_, fun e => ?_, fun e => ?_⟩ <;> (dsimp only at e; subst e; simp only [Bool.and_eq_true, Bool.not_eq_true'] at h2; exact ⟨h2.1, of_decide_eq_true h2.2⟩)
theorem cl_get {c : Nat} (h : c < 10) : vwCl[c]? = some (clT c) := get_nth (l := vwCl) h
theorem cl_in {c : Nat} (h : c < 10) : ∀ w ∈ u_ws (clT c).1 (clT c).2.1 (clT c).2.2, w ∈ gT := by
  intro w hw
  obtain ⟨j, hj, rfl⟩ := List.mem_map.mp hw
  have h1 := List.all_eq_true.mp fwAll c (List.mem_range.mpr h)
  have h2 := List.all_eq_true.mp h1 j hj
  refine gT_of h2 ?_ ?_
  · unfold u_lay
    split <;> rfl
  · unfold u_lay
    split <;> exact fun q => by cases q
theorem cl_ty {c : Nat} (h : c < 10) : ∃ ty0 : Nat → FieldType, (∀ k, k < (clT c).2.2 → parseFieldDescriptor ((clT c).2.1 k).2.2.1 = some (ty0 k)) ∧ ∀ a, a < (clT c).2.2 → ∀ b, b < (clT c).2.2 → a ≠ b → ((clT c).2.1 a).2.1 ≠ ((clT c).2.1 b).2.1 := by
  match c, h with
  | 0, _ => exact ⟨tyX0, tyX0_ok, nmX0⟩
  | 1, _ => exact ⟨tyX1, tyX1_ok, nmX1⟩
  | 2, _ => exact ⟨tyX2, tyX2_ok, nmX2⟩
  | 3, _ => exact ⟨tyX3, tyX3_ok, nmX3⟩
  | 4, _ => exact ⟨tyX4, tyX4_ok, nmX4⟩
  | 5, _ => exact ⟨tyX5, tyX5_ok, nmX5⟩
  | 6, _ => exact ⟨tyX6, tyX6_ok, nmX6⟩
  | 7, _ => exact ⟨tyX7, tyX7_ok, nmX7⟩
  | 8, _ => exact ⟨tyX8, tyX8_ok, nmX8⟩
  | 9, _ => exact ⟨tyX9, tyX9_ok, nmX9⟩
  | n + 10, h => exact absurd h (by omega)
