/-! ===== the abstract machine is the machine: worlds ===== -/
theorem nth_ge {α : Type} {d : α} : ∀ {l : List α} {n : Nat}, l.length ≤ n → nth d l n = d
  | [], _, _ => rfl
  | _ :: l, 0, h => absurd h (by simp)
  | _ :: l, n + 1, h => nth_ge (l := l) (n := n) (by simpa using h)
theorem nth_get {α : Type} {d : α} : ∀ {l : List α} {n : Nat} {v : α}, l[n]? = some v → nth d l n = v
  | [], n, v, h => by simp at h
  | a :: l, 0, v, h => by simpa [nth] using h
  | a :: l, n + 1, v, h => by
    rw [List.getElem?_cons_succ] at h
    exact nth_get (l := l) h
theorem get_nth {α : Type} {d : α} : ∀ {l : List α} {n : Nat}, n < l.length → l[n]? = some (nth d l n)
  | [], n, h => absurd h (by simp)
  | a :: l, 0, h => by simp [nth]
  | a :: l, n + 1, h => by
    rw [List.getElem?_cons_succ]
    exact get_nth (l := l) (by simpa using h)
theorem nth_ne {α : Type} {d : α} {l : List α} {n : Nat} (h : nth d l n ≠ d) : l[n]? = some (nth d l n) := by
  by_cases hn : n < l.length
  · exact get_nth hn
  · exact absurd (nth_ge (by omega)) h
def cv (ad : Nat → Nat) (fz : Value) : Value → Value
  | .ref k => .ref (ad k)
  | .retAddr _ => fz
  | .int v => .int v
  | .long v => .long v
  | .float v => .float v
  | .double v => .double v
  | .null => .null
theorem cv_cat {ad : Nat → Nat} {fz : Value} (hf : fz.category = 1) (v : Value) : (cv ad fz v).category = v.category := by
  cases v <;> first | rfl | exact hf
def fl (sd k : Nat) : List (Nat × Nat) := nth [] (match sd with | 0 => fldX | _ => fldM) k
def fv (ad : Nat → Nat) (f : Nat → Int32) (g : Nat → Int64) (j : Nat) (q : Nat × Nat) : Value := match q with
  | (3, c) => .ref (ad c)
  | (2, _) => .long (g j)
  | _ => .int (f j)
def fsE (ad : Nat → Nat) (f : Nat → Int32) (g : Nat → Int64) : Nat → List (Nat × Nat) → List Value
  | _, [] => []
  | j, q :: r => fv ad f g j q :: fsE ad f g (j + 1) r
theorem fsE_get {ad : Nat → Nat} {f : Nat → Int32} {g : Nat → Int64} : ∀ (l : List (Nat × Nat)) (j0 j : Nat), (fsE ad f g j0 l)[j]? = (l[j]?).map (fv ad f g (j0 + j))
  | [], j0, j => by simp [fsE]
  | q :: r, j0, 0 => by simp [fsE]
  | q :: r, j0, j + 1 => by
    simp only [fsE, List.getElem?_cons_succ]
    rw [fsE_get r (j0 + 1) j, show j0 + 1 + j = j0 + (j + 1) by omega]
theorem fsE_len {ad : Nat → Nat} {f : Nat → Int32} {g : Nat → Int64} : ∀ (l : List (Nat × Nat)) (j0 : Nat), (fsE ad f g j0 l).length = l.length
  | [], j0 => rfl
  | q :: r, j0 => by simp [fsE, fsE_len r (j0 + 1)]
def cellE (sd : Nat) (ad tc : Nat → Nat) (f : Nat → Int32) (g : Nat → Int64) (k : Nat) : va_E := match lay sd k with
  | (0, ci, _) => .inr (ci, fsE ad f g 0 (fl sd k))
  | (1, n, _) => .inl (tc 0, n, .inl f)
  | (2, n, _) => .inl (tc 1, n, .inr (.inl g))
  | (3, n, _) => .inl (tc 2, n, .inl f)
  | (4, n, _) => .inl (tc 3, n, .inl f)
  | (5, n, c) => .inl (tc 4, n, .inr (.inr (.inr (.inr (fun j => some (ad (c + j)))))))
  | _ => .inr (99, [])
def Nw (sd : Nat) : Nat := match sd with
  | 0 => 65
  | _ => 26
def wl (sd : Nat) (ad tc : Nat → Nat) (μ : Mem) : va_W := (List.range (Nw sd)).map (fun k => (ad k, cellE sd ad tc (μ.1 k) (μ.2 k) k))
theorem wl_get {sd : Nat} {ad tc : Nat → Nat} {μ : Mem} {k : Nat} (hk : k < Nw sd) : (wl sd ad tc μ)[k]? = some (ad k, cellE sd ad tc (μ.1 k) (μ.2 k) k) := by
  simp [wl, hk]
theorem wl_set {sd : Nat} {ad tc : Nat → Nat} {μ μ' : Mem} {k : Nat} (hk : k < Nw sd) (h1 : ∀ a, a ≠ k → μ'.1 a = μ.1 a) (h2 : ∀ a, a ≠ k → μ'.2 a = μ.2 a) : (wl sd ad tc μ).set k (ad k, cellE sd ad tc (μ'.1 k) (μ'.2 k) k) = wl sd ad tc μ' := by
  apply List.ext_getElem?
  intro j
  by_cases hj : j < Nw sd
  · rw [wl_get hj]
    by_cases e : j = k
    · subst e
      rw [List.getElem?_set_self (by simp [wl, hj])]
    · rw [List.getElem?_set_ne (Ne.symm e), wl_get hj, h1 j e, h2 j e]
  · rw [List.getElem?_eq_none (by simp [wl]; omega), List.getElem?_eq_none (by simp [wl]; omega)]
theorem wl_addr {sd : Nat} {ad tc : Nat → Nat} {μ : Mem} {A : Nat → Prop} {μ' : Mem} (h : va_D A (wl sd ad tc μ)) : va_D A (wl sd ad tc μ') := by
  have key : ∀ (k : Nat) (q : Nat × va_E), (wl sd ad tc μ')[k]? = some q → ∃ q0, (wl sd ad tc μ)[k]? = some q0 ∧ q0.1 = q.1 := by
    intro k q hq
    have hk : k < Nw sd := by
      have := (List.getElem?_eq_some_iff.mp hq).1
      simpa [wl] using this
    rw [wl_get hk] at hq
    cases hq
    exact ⟨_, wl_get hk, rfl⟩
  refine ⟨fun i j x y hi hj hxy => ?_, fun k q hk => ?_⟩
  · obtain ⟨x0, a1, a2⟩ := key i x hi
    obtain ⟨y0, b1, b2⟩ := key j y hj
    exact h.1 i j x0 y0 a1 b1 (a2.trans (hxy.trans b2.symm))
  · obtain ⟨q0, a1, a2⟩ := key k q hk
    rw [← a2]
    exact h.2 k q0 a1
theorem wl_A {sd : Nat} {ad tc : Nat → Nat} {μ μ' : Mem} {sz q : Nat} (h : va_A (wl sd ad tc μ) sz q) : va_A (wl sd ad tc μ') sz q := by
  rcases h with ⟨k, e, h⟩ | h
  · have hk : k < Nw sd := by
      have := (List.getElem?_eq_some_iff.mp h).1
      simpa [wl] using this
    rw [wl_get hk] at h
    cases h
    exact Or.inl ⟨k, _, wl_get hk⟩
  · exact Or.inr h
def tysA (tc : Nat → Nat) : List (ClassId × FieldType) := [(tc 0, .int), (tc 1, .long), (tc 2, .boolean), (tc 3, .byte), (tc 4, .array .int)]
/-! what is only read -/
def abv : Nat → Int32 := fun j => nth 0 [-1, 0, 0, 1, 2, 1] j
def sLen : List Nat := [36, 61, 8]
def sByt : List (List Int32) := [[97, 100, 100, 115, 32, 48, 32, 59, 32, 119, 111, 114, 116, 104, 32, 53, 48, 32, 45, 32, 108, 101, 110, 103, 116, 104, 32, 59, 32, 109, 97, 121, 32, 49, 32, 59], [97, 100, 100, 115, 32, 119, 111, 114, 116, 104, 32, 109, 97, 121, 32, 111, 114, 32, 97, 110, 100, 32, 110, 111, 116, 32, 117, 115, 101, 100, 32, 104, 111, 117, 114, 32, 108, 101, 116, 116, 101, 114, 32, 108, 101, 110, 103, 116, 104, 32, 112, 117, 114, 115, 101, 32, 109, 97, 110, 121, 32], [40, 41, 59, 43, 45, 42, 60, 61]]
def strS : List String := ["adds 0 ; worth 50 - length ; may 1 ;", "adds worth may or and not used hour letter length purse many ", "();+-*<="]
def yWithin : MethodName := ⟨"DearerByUse", "within", "(II)Z"⟩
def ROm (sd : Nat) (μ : Mem) : Prop := match sd with
  | 0 => (∀ j, j < 6 → μ.1 65 j = abv j) ∧ ∀ i, i < 3 → μ.1 (66 + 2 * i) 1 = 0 ∧ ∀ j, j < sLen.getD i 0 → μ.1 (67 + 2 * i) j = (sByt.getD i []).getD j 0
  | _ => True
def ROs (sd : Nat) (ad : Nat → Nat) (fz : Value) (A : Nat → Prop) (U : State) (H : Heap) : Prop := match sd with
  | 0 => va_Z "DearerByUse$Laws" "ABOVE" "[I" (.ref (ad 65)) A U H ∧ va_T .int (ad 65) 6 (fun j => .int (abv j)) A U H ∧ va_Z "java/lang/String" "COMPACT_STRINGS" "Z" (.int 1) A U H ∧ va_Z "jdk/internal/util/Preconditions" "SIOOBE_FORMATTER" "Ljava/util/function/BiFunction;" fz A U H ∧
    vk_S 3 sLen sByt (fun i => ad (66 + 2 * i)) (fun i => ad (67 + 2 * i)) A U H ∧ vk_R "DearerByUse" 75 (strS.getD 0 "") (ad 66) U ∧ vk_R "DearerByUse$Reader" 115 (strS.getD 1 "") (ad 68) U ∧ vk_R "DearerByUse$Reader" 106 (strS.getD 2 "") (ad 70) U ∧
    va_Nw (.methodLinkNest "DearerByUse$Words" 24 yWithin "DearerByUse") U ∧ va_Nw (.methodLinkNest "DearerByUse$Writers" 21 yWithin "DearerByUse") U
  | _ => True
theorem ROs.warm {sd : Nat} {ad : Nat → Nat} {fz : Value} {A : Nat → Prop} {s U : State} {H : Heap} (hW : s.WarmedH U.vm) (h : ROs sd ad fz A s H) : ROs sd ad fz A U H := by
  match sd, h with
  | 0, ⟨h1, h2, h3, h4, h5, h6, h7, h8, h9, h10⟩ => exact ⟨h1.moved hW.alike, h2.moved hW.alike, h3.moved hW.alike, h4.moved hW.alike, h5.moved hW.alike, h6.warm hW, h7.warm hW, h8.warm hW, h9.warmM hW, h10.warmM hW⟩
  | n + 1, h => exact h
theorem ROs.same {sd : Nat} {ad : Nat → Nat} {fz : Value} {A : Nat → Prop} {s U : State} {H : Heap} (hv : s.vm = U.vm) (h : ROs sd ad fz A s H) : ROs sd ad fz A U H := by
  have hal : s.vm.Alike U.vm := by rw [hv]; exact Vm.Alike.refl _
  match sd, h with
  | 0, ⟨h1, h2, h3, h4, h5, h6, h7, h8, h9, h10⟩ => exact ⟨h1.moved hal, h2.moved hal, h3.moved hal, h4.moved hal, h5.moved hal, h6.same hv.symm, h7.same hv.symm, h8.same hv.symm, h9.same rfl hv, h10.same rfl hv⟩
  | n + 1, h => exact h
theorem ROs.kept {sd : Nat} {ad : Nat → Nat} {fz : Value} {A : Nat → Prop} {U : State} {H H1 : Heap} (h : ROs sd ad fz A U H) (hq : ∀ a : Nat, a < H.size → ¬ A a → H1[a]? = H[a]?) : ROs sd ad fz A U H1 := by
  match sd, h with
  | 0, ⟨h1, h2, h3, h4, h5, h6, h7, h8, h9, h10⟩ => exact ⟨h1.kept hq, h2.kept hq, h3.kept hq, h4.kept hq, h5.kept hq, h6, h7, h8, h9, h10⟩
  | n + 1, h => exact h
theorem ROs.narrow {sd : Nat} {ad : Nat → Nat} {fz : Value} {A B : Nat → Prop} {U : State} {H : Heap} (h : ROs sd ad fz A U H) (hAB : ∀ q, B q → A q) : ROs sd ad fz B U H := by
  match sd, h with
  | 0, ⟨h1, h2, h3, h4, h5, h6, h7, h8, h9, h10⟩ => exact ⟨h1.narrow hAB, h2.narrow hAB, h3.narrow hAB, h4.narrow hAB, h5.narrow hAB, h6, h7, h8, h9, h10⟩
  | n + 1, h => exact h
/-! locals -/
def lvp (ad : Nat → Nat) (fz : Value) (lv : List Value) : List (Nat × Value) := (List.range lv.length).filterMap (fun i => match lv[i]? with
  | some v => if v = un then none else some (i, cv ad fz v)
  | none => none)
theorem lvp_mem {ad : Nat → Nat} {fz : Value} {lv : List Value} {q : Nat × Value} : q ∈ lvp ad fz lv ↔ ∃ v, lv[q.1]? = some v ∧ v ≠ un ∧ q.2 = cv ad fz v := by
  unfold lvp
  rw [List.mem_filterMap]
  constructor
  · rintro ⟨i, hi, h⟩
    split at h
    · rename_i v hv
      split at h
      · cases h
      · rename_i hu
        cases h
        exact ⟨v, hv, hu, rfl⟩
    · cases h
  · rintro ⟨v, h1, h2, h3⟩
    refine ⟨q.1, List.mem_range.mpr (List.getElem?_eq_some_iff.mp h1).1, ?_⟩
    rw [h1]
    simp only [h2, if_false]
    rw [← h3]
def lvR (ad : Nat → Nat) (fz : Value) (ls : Array Slot) (nL : Nat) (lv : List Value) : Prop := lv.length = nL ∧ lv_has ls nL (lvp ad fz lv)
theorem lvR.get {ad : Nat → Nat} {fz : Value} {ls : Array Slot} {nL : Nat} {lv : List Value} (h : lvR ad fz ls nL lv) {n : Nat} {v : Value} (hn : nth un lv n = v) (hu : v ≠ un) : ls[n]? = some (.val (cv ad fz v)) := by
  have h1 : lv[n]? = some v := by rw [← hn]; exact nth_ne (by rw [hn]; exact hu)
  exact h.2.2.2 (n, cv ad fz v) (lvp_mem.mpr ⟨v, h1, hu, rfl⟩)
theorem lvR.set1 {ad : Nat → Nat} {fz : Value} {ls : Array Slot} {nL : Nat} {lv : List Value} {n : Nat} {v : Value} (hl : lv.length = nL) (hfz : fz.category = 1) (hok : okst lv n = true) (h : lv_has ls nL ((n, cv ad fz v) :: (lvp ad fz lv).filter (fun q => !(q.1 == n) && !(q.1 + 1 == n && q.2.category == 2)))) : lvR ad fz ls nL (lv.set n v) := by
  refine ⟨by simpa using hl, h.1, h.2.1, fun q hq => ?_⟩
  obtain ⟨w, h1, h2, h3⟩ := lvp_mem.mp hq
  by_cases e : q.1 = n
  · have h4 : w = v := by
      rw [e, List.getElem?_set_self (by
        have := (List.getElem?_eq_some_iff.mp h1).1
        rw [List.length_set] at this
        omega)] at h1
      exact (Option.some.inj h1).symm
    subst h4
    have : q = (n, cv ad fz w) := by rw [← h3, ← e]
    rw [this]
    exact h.2.2 _ List.mem_cons_self
  · rw [List.getElem?_set_ne (Ne.symm e)] at h1
    refine h.2.2 q (List.mem_cons_of_mem _ (List.mem_filter.mpr ⟨lvp_mem.mpr ⟨w, h1, h2, h3⟩, ?_⟩))
    have e1 : (q.1 == n) = false := by simpa using e
    have e2 : (q.1 + 1 == n && q.2.category == 2) = false := by
      by_cases e3 : q.1 + 1 = n
      · subst e3
        have e4 : isL (nth un lv q.1) = false := by simpa [okst] using hok
        rw [nth_get h1] at e4
        have e5 : q.2.category = w.category := by rw [h3]; exact cv_cat hfz w
        rw [e5]
        cases w <;> first | (cases e4; done) | simp [Value.category]
      · simp [e3]
    rw [e1, e2]
    rfl
theorem lvR.set2 {ad : Nat → Nat} {fz : Value} {ls : Array Slot} {nL : Nat} {lv : List Value} {n : Nat} {v : Value} (hl : lv.length = nL) (hfz : fz.category = 1) (hok : okst lv n = true) (h : lv_has ls nL ((n, cv ad fz v) :: (lvp ad fz lv).filter (fun q => !(q.1 == n) && (!(q.1 == n + 1) && !(q.1 + 1 == n && q.2.category == 2))))) : lvR ad fz ls nL ((lv.set n v).set (n + 1) un) := by
  refine ⟨by simpa using hl, h.1, h.2.1, fun q hq => ?_⟩
  obtain ⟨w, h1, h2, h3⟩ := lvp_mem.mp hq
  by_cases e0 : q.1 = n + 1
  · have hlt := (List.getElem?_eq_some_iff.mp h1).1
    rw [e0, List.getElem?_set_self (by
      simp only [List.length_set] at hlt ⊢
      omega)] at h1
    exact absurd (Option.some.inj h1).symm h2
  rw [List.getElem?_set_ne (Ne.symm e0)] at h1
  by_cases e : q.1 = n
  · have h4 : w = v := by
      rw [e, List.getElem?_set_self (by
        have := (List.getElem?_eq_some_iff.mp h1).1
        rw [List.length_set] at this
        omega)] at h1
      exact (Option.some.inj h1).symm
    subst h4
    have : q = (n, cv ad fz w) := by rw [← h3, ← e]
    rw [this]
    exact h.2.2 _ List.mem_cons_self
  · rw [List.getElem?_set_ne (Ne.symm e)] at h1
    refine h.2.2 q (List.mem_cons_of_mem _ (List.mem_filter.mpr ⟨lvp_mem.mpr ⟨w, h1, h2, h3⟩, ?_⟩))
    have e1 : (q.1 == n) = false := by simpa using e
    have e1' : (q.1 == n + 1) = false := by simpa using e0
    have e2 : (q.1 + 1 == n && q.2.category == 2) = false := by
      by_cases e3 : q.1 + 1 = n
      · subst e3
        have e4 : isL (nth un lv q.1) = false := by simpa [okst] using hok
        rw [nth_get h1] at e4
        have e5 : q.2.category = w.category := by rw [h3]; exact cv_cat hfz w
        rw [e5]
        cases w <;> first | (cases e4; done) | simp [Value.category]
      · simp [e3]
    rw [e1, e1', e2]
    rfl
theorem csum_cv {ad : Nat → Nat} {fz : Value} (hfz : fz.category = 1) : ∀ st : List Value, ((st.map (cv ad fz)).map fun v => v.category).sum = csum st
  | [] => rfl
  | v :: r => by
    simp only [List.map_cons, List.sum_cons, csum, cv_cat hfz]
    rw [csum_cv hfz r]
/-! places of words -/
theorem nth_mem {α : Type} {d : α} {l : List α} {n : Nat} (h : n < l.length) : nth d l n ∈ l := List.mem_of_getElem? (get_nth h)
