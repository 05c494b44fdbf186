/-! ===== the abstract machine is the machine: one step ===== -/
theorem pI_inv {st : List Value} {f : Int32 → List Value → Prop} (h : pI st f) : ∃ a r, st = .int a :: r ∧ f a r := by
  unfold pI at h; split at h <;> first | exact ⟨_, _, rfl, h⟩ | exact h.elim
theorem pII_inv {st : List Value} {f : Int32 → Int32 → List Value → Prop} (h : pII st f) : ∃ a b r, st = .int b :: .int a :: r ∧ f a b r := by
  unfold pII at h; split at h <;> first | exact ⟨_, _, _, rfl, h⟩ | exact h.elim
theorem pL_inv {st : List Value} {f : Int64 → List Value → Prop} (h : pL st f) : ∃ a r, st = .long a :: r ∧ f a r := by
  unfold pL at h; split at h <;> first | exact ⟨_, _, rfl, h⟩ | exact h.elim
theorem pLL_inv {st : List Value} {f : Int64 → Int64 → List Value → Prop} (h : pLL st f) : ∃ a b r, st = .long b :: .long a :: r ∧ f a b r := by
  unfold pLL at h; split at h <;> first | exact ⟨_, _, _, rfl, h⟩ | exact h.elim
theorem pLI_inv {st : List Value} {f : Int64 → Int32 → List Value → Prop} (h : pLI st f) : ∃ a b r, st = .int b :: .long a :: r ∧ f a b r := by
  unfold pLI at h; split at h <;> first | exact ⟨_, _, _, rfl, h⟩ | exact h.elim
theorem pR_inv {st : List Value} {f : Nat → List Value → Prop} (h : pR st f) : ∃ a r, st = .ref a :: r ∧ f a r := by
  unfold pR at h; split at h <;> first | exact ⟨_, _, rfl, h⟩ | exact h.elim
theorem pRI_inv {st : List Value} {f : Nat → Int32 → List Value → Prop} (h : pRI st f) : ∃ a b r, st = .int b :: .ref a :: r ∧ f a b r := by
  unfold pRI at h; split at h <;> first | exact ⟨_, _, _, rfl, h⟩ | exact h.elim
theorem pRII_inv {st : List Value} {f : Nat → Int32 → Int32 → List Value → Prop} (h : pRII st f) : ∃ a b v r, st = .int v :: .int b :: .ref a :: r ∧ f a b v r := by
  unfold pRII at h; split at h <;> first | exact ⟨_, _, _, _, rfl, h⟩ | exact h.elim
theorem pRIL_inv {st : List Value} {f : Nat → Int32 → Int64 → List Value → Prop} (h : pRIL st f) : ∃ a b v r, st = .long v :: .int b :: .ref a :: r ∧ f a b v r := by
  unfold pRIL at h; split at h <;> first | exact ⟨_, _, _, _, rfl, h⟩ | exact h.elim
theorem walk_at {own : Nat} {pcl : Nat → Nat} {b : ByteArray} : ∀ {ps : List Nat} {is : List Instr} {i : Nat}, walk own pcl b ps is = true → i < is.length → ∃ raw len, decode b (nth 0 ps i) = .ok (raw, len) ∧ okI own pcl (nth 0 ps i) (nth .nop is i) raw len = true ∧ nth 0 ps (i + 1) = nth 0 ps i + len
  | [], is, i, h, hi => by simp [walk] at h
  | [_], [], i, h, hi => by simp at hi
  | [_], _ :: _, i, h, hi => by simp [walk] at h
  | pc :: pc' :: ps, [], i, h, hi => by simp at hi
  | pc :: pc' :: ps, a :: is, i, h, hi => by
    simp only [walk] at h
    split at h
    · rename_i raw len hd
      simp only [Bool.and_eq_true] at h
      obtain ⟨⟨h1, h2⟩, h3⟩ := h
      cases i with
      | zero => exact ⟨raw, len, hd, h1, Nat.eq_of_beq_eq_true h2⟩
      | succ i => exact walk_at (ps := pc' :: ps) (is := is) (i := i) h3 (by simpa using hi)
    · cases h
theorem at_i {y i : Nat} (hc : chkY y = true) (hn : nth .nop (prog y) i ≠ .nop) : ∃ raw len, decode (bc y) (pcs y i) = .ok (raw, len) ∧ okI (inf y).2.1 (pcs y) (pcs y i) (nth .nop (prog y) i) raw len = true ∧ pcs y (i + 1) = pcs y i + len := by
  have hi : i < (prog y).length := by
    by_cases h : i < (prog y).length
    · exact h
    · exact absurd (nth_ge (by omega)) hn
  unfold chkY at hc
  split at hc
  · rename_i b _ _ he
    have hb : bc y = b := by unfold bc; rw [he]
    rw [hb]
    exact walk_at hc hi
  · cases hc
theorem gT_of {w : Cond} {p : Nat} (h : wAt p w = true) (hg : goodWord w = true) (hne : w ≠ .tt) : w ∈ gT := by
  have h1 : nth .tt lw_tbl p = w := of_decide_eq_true h
  have h2 : lw_tbl[p]? = some w := by rw [← h1]; exact nth_ne (by rw [h1]; exact hne)
  exact List.mem_filter.mpr ⟨List.mem_of_getElem? h2, hg⟩
theorem inP_at {l : List (Nat × Nat × Nat × Nat)} {own idx n : Nat} {f : Nat × Nat × Nat × Nat → Bool} (h : inP l own idx n = true) (ha : l.all f = true) : ∃ p, f (own, idx, n, p) = true := by
  obtain ⟨q, hq, h1⟩ := List.any_eq_true.mp h
  simp only [Bool.and_eq_true] at h1
  obtain ⟨⟨a1, a2⟩, a3⟩ := h1
  have e1 := Nat.eq_of_beq_eq_true a1
  have e2 := Nat.eq_of_beq_eq_true a2
  have e3 := Nat.eq_of_beq_eq_true a3
  obtain ⟨x1, x2, x3, x4⟩ := q
  dsimp only at e1 e2 e3
  subst e1; subst e2; subst e3
  exact ⟨x4, List.all_eq_true.mp ha _ hq⟩
def rmD (d : Nat) : Room := { frames := d + 1, cells := 0, slots := 0, locals := (d + 1) * 64 }
def Cx (p : Program) (R : Room) (s : State) (m : MethodId) (args : Array Value) (meth : Method) (c : Code) (D : va_G) (ad tc : Nat → Nat) (fz : Value) (A : Nat → Prop) (sd y d : Nat) : Prop :=
  p.tables.exec = Jvm.exec ∧ c.code = bc y ∧ meth.sig.returnType = (inf y).2.2.2.2.1 ∧ c.maxLocals = (inf y).2.2.1 ∧ s.vm.findClass (cnm (inf y).2.1) = some m.cls ∧ (∀ w ∈ gT, w.before args s = true) ∧ meth.locks = false ∧ va_K D vwCl (tysA tc) s ∧ ROs sd ad fz A s s.heap ∧ fz.category = 1 ∧ (inf y).1 = sd ∧ chkY y = true ∧ (∀ q, s.heap.size ≤ q → A q) ∧ R = rmD (d + 1)
def WA (p : Program) (l : Launch) (e : Env) (R : Room) (s : State) (m : MethodId) (args : Array Value) (below : List Frame) (meth : Method) (c : Code) (D : va_G) (ad tc : Nat → Nat) (fz : Value) (A : Nat → Prop) (sd y : Nat) (Z : State → Prop) : PP := fun i lv st μ =>
  ∀ (H : Heap) (locs : List Loc) (ls : Array Slot), lvR ad fz ls (inf y).2.2.1 lv → va_P D vwCl (wl sd ad tc μ) H → va_D A (wl sd ad tc μ) → va_S A s.heap H locs → ROm sd μ → W p l e R s m args below meth c H locs 0 0 Z (F0 m (pcs y i) ls (st.map (cv ad fz)))
section STEP
variable {p : Program} {l : Launch} {e : Env} {R : Room} {s : State} {m : MethodId} {args : Array Value} {below : List Frame} {meth : Method} {c : Code} {D : va_G} {ad tc : Nat → Nat} {fz : Value} {A : Nat → Prop} {sd y d : Nat} {Z : State → Prop} {i : Nat} {lv st : List Value} {μ : Mem} {raw : Instr} {len : Nat}
theorem s_pii (C : Cx p R s m args meth c D ad tc fz A sd y d) {ins : Instr} (f : Int32 → Int32 → Int32) (hok : (decide (raw = ins) && Nat.beq len 1) = true) (hdec : decode (bc y) (pcs y i) = .ok (raw, len)) (hnx : pcs y (i + 1) = pcs y i + len)
    (hrow : ∀ (H : Heap) (locs : List Loc) (ls : Array Slot) (a b : Int32) (rest : List Value), decode (bc y) (pcs y i) = .ok (ins, 1) → W p l e R s m args below meth c H locs 0 0 Z (F0 m (pcs y i + 1) ls (.int (f a b) :: rest)) → W p l e R s m args below meth c H locs 0 0 Z (F0 m (pcs y i) ls (.int b :: .int a :: rest)))
    (h : pII st (fun a b r => WA p l e R s m args below meth c D ad tc fz A sd y Z (i + 1) lv (.int (f a b) :: r) μ)) : WA p l e R s m args below meth c D ad tc fz A sd y Z i lv st μ := by
  obtain ⟨a, b, r, rfl, h⟩ := pII_inv h
  simp only [Bool.and_eq_true] at hok
  have e1 : raw = ins := of_decide_eq_true hok.1
  have e2 : len = 1 := Nat.eq_of_beq_eq_true hok.2
  subst e1; subst e2
  intro H locs ls hl hP hD hS hro
  refine hrow H locs ls a b _ hdec ?_
  have h1 := h H locs ls hl hP hD hS hro
  rw [hnx] at h1
  exact h1
end STEP
