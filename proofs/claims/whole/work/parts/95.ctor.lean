/-! ===== constructors: a world that grows at its end ===== -/
def wb (b : Nat) (es : List va_E) : va_W := es.mapIdx (fun i x => (b + i, x))
theorem wb_get {b i : Nat} {es : List va_E} : (wb b es)[i]? = (es[i]?).map (fun x => (b + i, x)) := by
  unfold wb
  rw [List.getElem?_mapIdx]
theorem wb_some {b i : Nat} {es : List va_E} {q : Nat × va_E} (h : (wb b es)[i]? = some q) : es[i]? = some q.2 ∧ q.1 = b + i := by
  rw [wb_get] at h
  obtain ⟨x, h1, h2⟩ := Option.map_eq_some_iff.mp h
  rw [← h2]
  exact ⟨h1, rfl⟩
theorem wb_in {b i : Nat} {es : List va_E} {x : va_E} (h : es[i]? = some x) : (wb b es)[i]? = some (b + i, x) := by
  rw [wb_get, h]
  rfl
theorem wb_D {A : Nat → Prop} {b : Nat} {es : List va_E} (hA : ∀ q, b ≤ q → A q) : va_D A (wb b es) := by
  refine ⟨fun i j p q hi hj hpq => ?_, fun k q hk => ?_⟩
  · have h1 := (wb_some hi).2
    have h2 := (wb_some hj).2
    omega
  · rw [(wb_some hk).2]
    exact hA _ (Nat.le_add_right _ _)
theorem wb_set {b i : Nat} {es : List va_E} {x : va_E} : (wb b es).set i (b + i, x) = wb b (es.set i x) := by
  apply List.ext_getElem?
  intro j
  rw [wb_get, List.getElem?_set, List.getElem?_set, wb_get]
  by_cases h : i = j
  · subst h
    by_cases z : i < es.length
    · simp [wb, z]
    · simp [wb, z]
  · simp [h]
theorem one_at {α : Type} {a x : α} {i : Nat} (h : [a][i]? = some x) : i = 0 ∧ x = a := by
  match i, h with
  | 0, h => exact ⟨rfl, (Option.some.inj h).symm⟩
  | n + 1, h => simp at h
theorem arrV_cg {cA N : Nat} {f g : Nat → Value} (h : ∀ j, j < N → f j = g j) : arrV cA N f = arrV cA N g := by
  unfold arrV
  congr 2
  funext j
  exact h j.val j.isLt
/-- the class of rows of rows, as the tables have it -/
def AO (U : State) (tc : Nat → Nat) : Prop := ∃ k, U.vm.classes[tc 4]? = some k ∧ k.kind = .array (tc 0) (.array .int)
theorem AO.moved {u U : State} {tc : Nat → Nat} (hvm : u.vm.Alike U.vm) (h : AO u tc) : AO U tc := by
  obtain ⟨k, h1, h2⟩ := h
  obtain ⟨k', h3, h4⟩ := hvm.2.2 _ _ h1
  exact ⟨k', h3, by rw [h4]; exact h2⟩
/-! decode rows and words, many at once -/
def dOk (bs : ByteArray) (q : Nat × Instr × Nat) : Bool := match decode bs q.1 with
  | .ok (a, n) => decide (a = q.2.1) && Nat.beq n q.2.2
  | _ => false
theorem dk {bs : ByteArray} {L : List (Nat × Instr × Nat)} (h : L.all (dOk bs) = true) (i : Nat) {pc len : Nat} {ins : Instr} (hi : L[i]? = some (pc, ins, len)) : decode bs pc = .ok (ins, len) := by
  have h1 := List.all_eq_true.mp h _ (List.mem_of_getElem? hi)
  unfold dOk at h1
  dsimp only at h1
  split at h1
  · rename_i a n hd
    simp only [Bool.and_eq_true] at h1
    rw [hd, of_decide_eq_true h1.1, Nat.eq_of_beq_eq_true h1.2]
  · cases h1
def wOk (q : Nat × Cond) : Bool := wAt q.1 q.2 && (goodWord q.2 && !decide (q.2 = .tt))
theorem wk {L : List (Nat × Cond)} (h : L.all wOk = true) (i : Nat) {p : Nat} {w : Cond} (hi : L[i]? = some (p, w)) : w ∈ gT := by
  have h1 := List.all_eq_true.mp h _ (List.mem_of_getElem? hi)
  unfold wOk at h1
  simp only [Bool.and_eq_true, Bool.not_eq_true', decide_eq_false_iff_not] at h1
  exact gT_of h1.1 h1.2.1 h1.2.2
/-! a constructor's state -/
def Bx (D : va_G) (b : Nat) (s : State) (es : List va_E) (H : Heap) (locs : List Loc) : Prop := H.size = b + es.length ∧ va_P D vwCl (wb b es) H ∧ va_S (fun q => b ≤ q) s.heap H locs
def Kx (p : Program) (s : State) (m : MethodId) (args : Array Value) (meth : Method) (c : Code) (cc : ByteArray) (nL : Nat) (own : String) (D : va_G) (tc : Nat → Nat) (b : Nat) : Prop := CallFix p m c cc nL s args gT own ∧ va_K D vwCl (tysA tc) s ∧ meth.name = "<init>" ∧ meth.locks = false ∧ meth.sig.returnType = none ∧ s.heap.size = b + 1 ∧ AO s tc
def PcC (D : va_G) (tc : Nat → Nat) (h ci : Nat) (fs as : List Value) (X : State → Prop) : Array Value → State → Prop := va_Pc (.ref h :: as) (fun U => U.heap.size = h + 1 ∧ va_at D vwCl (h, .inr (ci, fs)) U.heap ∧ va_K D vwCl (tysA tc) U ∧ AO U tc ∧ X U)
def QcC (D : va_G) (h : Nat) (es : List va_E) : Array Value → State → Outcome → State → Prop := fun _ st oc u => oc = .returned none ∧ u.heap.size = h + es.length ∧ va_P D vwCl (wb h es) u.heap ∧ va_F (fun q => h ≤ q) st u
abbrev wsC (y : MethodName) (bs : ByteArray) (nL : Nat) : List Cond := .code y bs nL none :: gT
theorem wsC_good {y : MethodName} {bs : ByteArray} {nL : Nat} (h : Cond.code y bs nL none ∈ gT) : GoodIn gT (wsC y bs nL) := by
  intro w hw
  rcases List.mem_cons.mp hw with e | e
  · rw [e]
    exact ⟨h, good_of_word rfl⟩
  · exact ⟨e, good_of_word (good_gT e)⟩
theorem PcC_blind {D : va_G} {tc : Nat → Nat} {h ci : Nat} {fs as : List Value} {X : State → Prop} (hX : ∀ (a : Array Value) (U : State) (g : JFrame) (mk : MethodId), X U → X (U.calling g mk a)) : FrameBlind (PcC D tc h ci fs as X) := fun a U g mk q => by
  obtain ⟨q0, q1, q2, qK, qA, qX⟩ := q
  exact ⟨q0, q1, q2, va_K.moved (u := U) (U := U.calling g mk a) (Vm.Alike.refl U.vm) qK, AO.moved (u := U) (U := U.calling g mk a) (Vm.Alike.refl U.vm) qA, hX a U g mk qX⟩
section CT
variable {p : Program} {l : Launch} {e : Env} {R : Room} {s : State} {m : MethodId} {args : Array Value} {below : List Frame} {meth : Method} {c : Code} {D : va_G} {tc : Nat → Nat} {b : Nat} {Z : State → Prop} {H H1 : Heap} {locs locs1 : List Loc} {pc ca sl nL : Nat} {ls : Array Slot} {rest : List Value} {cc : ByteArray} {own : String} {es es0 esC : List va_E} {x : va_E}
theorem Bx.push (hB : Bx D b s es H locs) (z1 : H1.size = b + es.length + es0.length) (o1 : ∀ q, q < b + es.length → H1[q]? = H[q]?) (h2 : ∀ i y, es0[i]? = some y → va_at D vwCl (b + es.length + i, y) H1) : Bx D b s (es ++ es0) H1 locs := by
  obtain ⟨hz, hP, hS⟩ := hB
  refine ⟨by rw [List.length_append]; omega, fun k q hk => ?_, ⟨Nat.le_trans hS.1 (by omega), fun q h1 h3 => (o1 q (by have := hS.1; omega)).trans (hS.2.1 q h1 h3), hS.2.2⟩⟩
  obtain ⟨h1, h3⟩ := wb_some hk
  obtain ⟨a, y⟩ := q
  dsimp only at h1 h3
  subst h3
  by_cases hl : k < es.length
  · rw [List.getElem?_append_left hl] at h1
    exact (hP k _ (wb_in h1)).kept (o1 _ (by show b + k < _; omega))
  · rw [List.getElem?_append_right (by omega)] at h1
    have h4 := h2 _ _ h1
    rw [show b + es.length + (k - es.length) = b + k by omega] at h4
    exact h4
theorem Bx.join (hB : Bx D b s (es0 ++ [x]) H locs) (z1 : H1.size = b + es0.length + esC.length) (o1 : ∀ q, q < b + es0.length → H1[q]? = H[q]?) (hP1 : va_P D vwCl (wb (b + es0.length) esC) H1) (hS1 : va_S (fun q => b ≤ q) s.heap H1 locs1) : Bx D b s (es0 ++ esC) H1 locs1 := by
  refine ⟨by rw [List.length_append]; omega, fun k q hk => ?_, hS1⟩
  obtain ⟨h1, h3⟩ := wb_some hk
  obtain ⟨a, y⟩ := q
  dsimp only at h1 h3
  subst h3
  by_cases hl : k < es0.length
  · rw [List.getElem?_append_left hl] at h1
    exact (hB.2.1 k _ (wb_in (es := es0 ++ [x]) (by rw [List.getElem?_append_left hl]; exact h1))).kept (o1 _ (by show b + k < _; omega))
  · rw [List.getElem?_append_right (by omega)] at h1
    have h4 := hP1 _ _ (wb_in h1)
    rw [show b + es0.length + (k - es0.length) = b + k by omega] at h4
    exact h4
theorem k_newa (C : Kx p s m args meth c cc nL own D tc b) {atype : ArrayType} {t0 cA N : Nat} {n : Int32} {a0 : vp_A} (har : Cond.arrayClass (newarray.typeOf atype) ∈ gT) (ht : (tysA tc)[t0]? = some (cA, newarray.typeOf atype)) (ha : vp_cell cA a0 = arrV cA N (fun _ => defaultValue (newarray.typeOf atype))) (hn : ¬ n < 0) (hN : n.toNatClampNeg = N) (hby : N * componentBytes (newarray.typeOf atype) ≤ 536870912) (hc : ca + 1 ≤ R.cells) (hs : sl + N ≤ R.slots) (hB : Bx D b s es H locs) (q : Nat) (hq : b + es.length = q) (hd : decode cc pc = .ok (.newarray atype, 2))
    (kk : ∀ H1, Bx D b s (es ++ [.inl (cA, a0)]) H1 locs → W p l e R s m args below meth c H1 locs (ca + 1) (sl + N) Z (F0 m (pc + 2) ls (.ref q :: rest))) : W p l e R s m args below meth c H locs ca sl Z (F0 m pc ls (.int n :: rest)) := by
  subst hq
  obtain ⟨⟨hx, hb, hml, hown, hts⟩, hK, -⟩ := C
  refine va_newaK hx hb (hts _ har) rfl hd rfl hn hN hby hc hs hB.1 fun H1 cA' e1 z1 o1 hAr hNm => ?_
  have e2 : cA' = cA := by
    have h := (hK.2 t0 _ ht).2
    cases atype <;> exact Option.some.inj (hNm.symm.trans h)
  rw [e2] at e1
  refine kk H1 (hB.push z1 o1 (fun i y hy => ?_))
  obtain ⟨h1, h2⟩ := one_at hy
  subst h1
  subst h2
  show H1[b + es.length + 0]? = some (vp_cell cA a0)
  rw [ha]
  exact e1
def dvOk (ci : Nat) (fs : List Value) : Bool := (List.range (clT ci).2.2).all (fun j => match parseFieldDescriptor ((clT ci).2.1 j).2.2.1 with
  | some ty => decide (defaultValue ty = vp_V fs j)
  | none => false)
theorem r_new (F : CallFix p m c cc nL s args gT own) (hK : va_K D vwCl (tysA tc) s) {ci idx : Nat} {fs : List Value} (h10 : ci < 10) (hcl : Cond.classLink own idx (clT ci).1 ∈ gT) (hin : Cond.instantiable (clT ci).1 (clT ci).2.2 ∈ gT) (hini : Cond.initialized (clT ci).1 ∈ gT) (hfs : dvOk ci fs = true) (hc : ca + 1 ≤ R.cells) (hs : sl + (clT ci).2.2 ≤ R.slots) (hd : decode cc pc = .ok (.new idx, 3))
    (kk : ∀ H1 : Heap, H1.size = H.size + 1 → (∀ q, q < H.size → H1[q]? = H[q]?) → va_at D vwCl (H.size, .inr (ci, fs)) H1 → W p l e R s m args below meth c H1 locs (ca + 1) (sl + (clT ci).2.2) Z (F0 m (pc + 3) ls (.ref H.size :: rest))) : W p l e R s m args below meth c H locs ca sl Z (F0 m pc ls rest) := by
  obtain ⟨hx, hb, hml, hown, hts⟩ := F
  have hKn := hK.1 ci _ (cl_get h10)
  obtain ⟨ty0, hty, -⟩ := cl_ty h10
  refine W.newcK hx hb hown (hts _ hcl) (hts _ hin) (hts _ hini) rfl hd hc hs hKn.2.1 rfl fun H1 kC hkC e1 z1 o1 => ?_
  refine kk H1 z1 o1 ⟨_, cl_get h10, (u_born ty0 hts (cl_in h10) hKn hkC e1 hty).to (fun j hj => ?_)⟩
  have h1 := List.all_eq_true.mp hfs j (List.mem_range.mpr hj)
  rw [hty j hj] at h1
  exact of_decide_eq_true h1
theorem k_new (C : Kx p s m args meth c cc nL own D tc b) {ci idx : Nat} {fs : List Value} (h10 : ci < 10) (hcl : Cond.classLink own idx (clT ci).1 ∈ gT) (hin : Cond.instantiable (clT ci).1 (clT ci).2.2 ∈ gT) (hini : Cond.initialized (clT ci).1 ∈ gT) (hfs : dvOk ci fs = true) (hc : ca + 1 ≤ R.cells) (hs : sl + (clT ci).2.2 ≤ R.slots) (hB : Bx D b s es H locs) (q : Nat) (hq : b + es.length = q) (hd : decode cc pc = .ok (.new idx, 3))
    (kk : ∀ H1, Bx D b s (es ++ [.inr (ci, fs)]) H1 locs → W p l e R s m args below meth c H1 locs (ca + 1) (sl + (clT ci).2.2) Z (F0 m (pc + 3) ls (.ref q :: rest))) : W p l e R s m args below meth c H locs ca sl Z (F0 m pc ls rest) := by
  subst hq
  refine r_new C.1 C.2.1 h10 hcl hin hini hfs hc hs hd (fun H1 z1 o1 hat => ?_)
  rw [hB.1] at z1 o1 hat ⊢
  refine kk H1 (hB.push z1 o1 (fun i y hy => ?_))
  obtain ⟨h1, h2⟩ := one_at hy
  subst h1
  subst h2
  exact hat
theorem k_put (C : Kx p s m args meth c cc nL own D tc b) {ci k idx : Nat} {fs : List Value} {cs : List va_E} {v : Value} {ty : FieldType} (h10 : ci < 10) (hk : k < (clT ci).2.2) (hdc : ((clT ci).2.1 k).1 = own) (hlink : Cond.fieldLink own idx own ((clT ci).2.1 k).2.1 ((clT ci).2.1 k).2.2.1 ∈ gT) (hd : parseFieldDescriptor ((clT ci).2.1 k).2.2.1 = some ty) (hn : narrow ty v = v) (hfit : fits ty v = true) (hl : k < fs.length) (hB : Bx D b s (.inr (ci, fs) :: cs) H locs) (hdec : decode cc pc = .ok (.putfield idx, 3))
    (kk : ∀ (H1 : Heap) (locs1 : List Loc), Bx D b s (.inr (ci, fs.set k v) :: cs) H1 locs1 → W p l e R s m args below meth c H1 locs1 ca sl Z (F0 m (pc + 3) ls rest)) : W p l e R s m args below meth c H locs ca sl Z (F0 m pc ls (v :: .ref b :: rest)) := by
  obtain ⟨⟨hx, hb, hml, hown, hts⟩, hK, hini, -⟩ := C
  obtain ⟨hz, hP, hS⟩ := hB
  have hc := cl_get h10
  obtain ⟨ty0, hty, hnm⟩ := cl_ty h10
  have hin := cl_in h10
  have hap := va_apart (own := own) hts hin ty0 hty hnm hK hc
  have he : (wb b (.inr (ci, fs) :: cs))[0]? = some (b, .inr (ci, fs)) := wb_in (b := b) (i := 0) (es := .inr (ci, fs) :: cs) rfl
  obtain ⟨r, h1, cell, q1, q2, q3, q4⟩ := hP 0 _ he
  have hr : r = clT ci := Option.some.inj (h1.symm.trans hc)
  subst hr
  obtain ⟨hSl, hfc, kC, hkC, hkind⟩ := hK.1 ci _ hc
  obtain ⟨cf, kf, fi, f, hi, hsl⟩ := hSl k hk
  have hlay := hts _ (hin _ (u_in_lay hk))
  have hst := (u_facts hfc hkC (u_lays hts hin hk) hi).1
  have fin : ∀ H' : Heap, H'[b]? = some (cell.setSlot f.slot v) → H'.size = H.size → (∀ q, q ≠ b → H'[q]? = H[q]?) → Bx D b s (.inr (ci, fs.set k v) :: cs) H' (locs ++ [⟨b, f.slot⟩]) := by
    intro H' e1 e2 e3
    rw [hsl] at e1 ⊢
    have h2 := hP.set (wb_D (A := fun q => b ≤ q) (fun _ z => z)) he (e := .inr (ci, fs.set k v)) ⟨_, hc, t_OB.to (V := updV (vp_V fs) k v) ⟨_, e1, q2, q3, t_set q4 hap hk v⟩ (fun j _ => vp_updV_set hl v j)⟩ e3
    have h3 : va_P D vwCl ((wb b (.inr (ci, fs) :: cs)).set 0 (b + 0, .inr (ci, fs.set k v))) H' := h2
    rw [wb_set] at h3
    exact ⟨by rw [e2]; exact hz, h3, hS.put e2 e3 (Nat.le_refl b)⟩
  have hi' := hi
  rw [hdc] at hi'
  by_cases hf : ((clT ci).2.1 k).2.2.2 = true
  · unfold u_lay at hlay
    rw [if_pos hf] at hlay
    have hcf : m.cls = cf := by
      obtain ⟨_, _, c', _, _, _, -, -, hf', -, -, -, hown2, -⟩ := Cond.laysFinal_spec hlay
      have e1 : c' = cf := by
        have := hi.symm.trans hf'
        simp at this
        exact this.1.symm
      rw [hdc] at hown2
      rw [← e1]
      exact Option.some.inj (hown.symm.trans hown2)
    have h6 := u_fits hfc hkC hkind (Or.inr hlay) hi hd hn hfit
    exact W.putFinK hx hb hown (hts _ hlink) hi' hst hcf hini (by rw [q2]; exact h6) q1 q3 (by rw [hsl]; exact k2_hasslot (q4 k hk)) rfl rfl hdec fun H' e1 e2 e3 => kk _ _ (fin H' e1 e2 e3)
  · unfold u_lay at hlay
    rw [if_neg hf] at hlay
    have h6 := u_store hfc hkC hkind hlay hi hd hn hfit
    exact W.putK hx hb (f := f) ⟨hown, hts _ hlink, ⟨_, _, _, hi'⟩, hst⟩ (by rw [q2]; exact h6) q1 q3 (by rw [hsl]; exact k2_hasslot (q4 k hk)) rfl rfl hdec fun H' e1 e2 e3 => kk _ _ (fin H' e1 e2 e3)
theorem k_get (C : Kx p s m args meth c cc nL own D tc b) {ci k idx : Nat} {fs : List Value} {cs : List va_E} {v : Value} (h10 : ci < 10) (hk : k < (clT ci).2.2) (hdc : ((clT ci).2.1 k).1 = own) (hlink : Cond.fieldLink own idx own ((clT ci).2.1 k).2.1 ((clT ci).2.1 k).2.2.1 ∈ gT) (hv : fs[k]? = some v) (hB : Bx D b s (.inr (ci, fs) :: cs) H locs) (hdec : decode cc pc = .ok (.getfield idx, 3))
    (kk : W p l e R s m args below meth c H locs ca sl Z (F0 m (pc + 3) ls (v :: rest))) : W p l e R s m args below meth c H locs ca sl Z (F0 m pc ls (.ref b :: rest)) := by
  obtain ⟨⟨hx, hb, hml, hown, hts⟩, hK, -⟩ := C
  exact va_get (ref := own) hx hb hts (cl_in h10) hown hK hB.2.1 0 (wb_in (b := b) (i := 0) (es := .inr (ci, fs) :: cs) rfl) (cl_get h10) k hk (hts _ hlink) (fun y hy => by rw [hdc] at hy; exact hy) hv hdec kk
theorem k_multi (C : Kx p s m args meth c cc nL own D tc b) {idx N K : Nat} (hcl : Cond.classLink own idx "[[I" ∈ gT) (har : Cond.arrayClass .int ∈ gT) {n k : Int32} (hn : ¬ n < 0) (hk : ¬ k < 0) (hN : n.toNatClampNeg = N) (hK' : k.toNatClampNeg = K) (hN4 : N ≤ 1000) (hK4 : K ≤ 1000) (hc : ca + (1 + N) ≤ R.cells) (hs : sl + (N + N * K) ≤ R.slots) (hB : Bx D b s es H locs) (q : Nat) (hq : b + es.length = q) (hd : decode cc pc = .ok (.multianewarray idx 2, 4))
    (kk : ∀ H1, Bx D b s (es ++ (.inl (tc 4, N, .inr (.inr (.inr (.inr (fun j => some (q + 1 + j)))))) :: List.replicate N (.inl (tc 0, K, .inl (fun _ => 0))))) H1 locs → W p l e R s m args below meth c H1 locs (ca + (1 + N)) (sl + (N + N * K)) Z (F0 m (pc + 4) ls (.ref q :: rest))) : W p l e R s m args below meth c H locs ca sl Z (F0 m pc ls (.int k :: .int n :: rest)) := by
  subst hq
  obtain ⟨⟨hx, hb, hml, hown, hts⟩, hK, -, -, -, hsz, hAO⟩ := C
  refine mu_W hx hb hown (hts _ hcl) (tA := tc 4) (tI := tc 0) hAO (hts _ har) (hK.2 4 _ rfl).2 (hK.2 0 _ rfl).2 hn hk hN hK' hN4 hK4 hB.2.2.1 hc hs hd (fun H1 z1 o1 c1 c2 => ?_)
  rw [hB.1] at z1 o1 c1 c2 ⊢
  refine kk H1 (hB.push (by rw [z1, List.length_cons, List.length_replicate]; omega) o1 (fun i y hy => ?_))
  match i, hy with
  | 0, hy =>
    cases hy
    show H1[b + es.length + 0]? = some (vp_cell (tc 4) (N, .inr (.inr (.inr (.inr (fun j => some (b + es.length + 1 + j)))))))
    rw [Nat.add_zero, c1, vp_cell_q]
    unfold muC
    exact congrArg some (arrV_cg (fun j hj => if_pos hj))
  | i + 1, hy =>
    rw [List.getElem?_cons_succ, List.getElem?_replicate] at hy
    split at hy
    · rename_i hi
      cases hy
      show H1[b + es.length + (i + 1)]? = some (vp_cell (tc 0) (K, .inl (fun _ => 0)))
      rw [show b + es.length + (i + 1) = b + es.length + 1 + i by omega, c2 i hi]
      rfl
    · cases hy
theorem k_iast (C : Kx p s m args meth c cc nL own D tc b) {j n : Nat} {f : Nat → Int32} (hj : es[j]? = some (.inl (tc 0, n, .inl f))) {i y : Int32} (hin : vp_in i n) (hB : Bx D b s es H locs) (q : Nat) (hq : b + j = q) (hd : decode cc pc = .ok (.iastore, 1))
    (kk : ∀ (H1 : Heap) (locs1 : List Loc), Bx D b s (es.set j (.inl (tc 0, n, .inl (upd f i.toNatClampNeg y)))) H1 locs1 → W p l e R s m args below meth c H1 locs1 ca sl Z (F0 m (pc + 1) ls rest)) : W p l e R s m args below meth c H locs ca sl Z (F0 m pc ls (.int y :: .int i :: .ref q :: rest)) := by
  subst hq
  obtain ⟨⟨hx, hb, hml, hown, hts⟩, hK, -⟩ := C
  obtain ⟨hz, hP, hS⟩ := hB
  have he := wb_in (b := b) hj
  refine W.iast hx hb (hP j _ he) ((hK.2 0 _ rfl).1 n (fun j => .int (f j))) (fun q => by cases q) (by show ¬ (i < 0 ∨ (arrV _ _ _).slots.size ≤ _); rw [arrV_size]; exact hin) rfl rfl hd fun H1 e1 z1 oq => ?_
  have h2 := hP.set (wb_D (A := fun q => b ≤ q) (fun _ z => z)) he (e := .inl (tc 0, n, .inl (upd f i.toNatClampNeg y))) (H1 := H1) (by
    show H1[b + j]? = some (vp_cell _ _)
    rw [e1, vp_cell_i, vp_cell_i, arrV_store]
    congr 1
    refine arrV_cg (fun q _ => ?_)
    by_cases hq : q = i.toNatClampNeg
    · subst hq
      simp [updV, upd]
    · simp [updV, upd, hq]) oq
  rw [wb_set] at h2
  exact kk H1 _ ⟨by rw [z1, List.length_set]; exact hz, h2, hS.put z1 oq (Nat.le_add_right b j)⟩
theorem k_obj (C : Kx p s m args meth c cc nL own D tc b) {idx q : Nat} (hlink : Cond.methodLink own idx objectInit ∈ gT) (hi : Cond.instanceMethod objectInit ∈ gT) (hco : Cond.code objectInit ⟨#[0xb1]⟩ 1 none ∈ gT) (hls : ls.size = nL) (hd : decode cc pc = .ok (.invokespecial idx, 3)) (hfr : 1 ≤ R.frames) (hlo : 12 ≤ R.locals) (kk : W p l e R s m args below meth c H locs ca sl Z (F0 m (pc + 3) ls [])) : W p l e R s m args below meth c H locs ca sl Z (F0 m pc ls [.ref q]) := by
  obtain ⟨⟨hx, hb, hml, hown, hts⟩, -⟩ := C
  exact W.objInit hx hb hown (hts _ hlink) (hts _ hi) (hts _ hco) rfl (by rw [hml]; exact hls) rfl hd hfr (by show 2 * 0 + 0 + 12 ≤ _; exact hlo) kk
theorem k_ret (C : Kx p s m args meth c cc nL own D tc b) (hB : Bx D b s es H locs) (hd : decode cc pc = .ok (.return_, 1)) : W p l e R s m args below meth c H locs ca sl (MQ below (QcC D b es) args s ca sl (fun q => b ≤ q)) (F0 m pc ls []) := by
  obtain ⟨⟨hx, hb, hml, hown, hts⟩, hK, -, hlk, hr, -⟩ := C
  exact W.vret hx hb hr (fun t ht _ => ⟨rfl, by rw [ht]; exact hB.1, by rw [ht]; exact hB.2.1, hB.2.2.F ht⟩) hB.2.2.2.2 hd hlk
theorem k_run {mc ms h : Nat} {st0 : List Value} {av : Array Value} (hr : va_Run p l e R s m args below meth c H locs ca sl mc ms (F0 m pc ls st0) rest (QcC D h esC av) (fun q => h ≤ q)) (hB : Bx D b s (es0 ++ [x]) H locs) (hh : b + es0.length = h)
    (kk : ∀ (H1 : Heap) (locs1 : List Loc), Bx D b s (es0 ++ esC) H1 locs1 → W p l e R s m args below meth c H1 locs1 (ca + mc) (sl + ms) Z (F0 m (pc + 3) ls rest)) : W p l e R s m args below meth c H locs ca sl Z (F0 m pc ls st0) := by
  subst hh
  intro T hT X
  obtain ⟨v, st₀, u, T', L, h0, X', hL, e1, e2, ⟨hv, hz, hP, hz2, hk⟩, st⟩ := hr T hT X
  cases hv
  rw [h0] at hz2 hk
  have hS := hB.2.2
  have hHs : H.size = b + es0.length + 1 := by rw [hB.1, List.length_append]; rfl
  have hk' : ∀ q, q < b + es0.length → T'.heap[q]? = H[q]? := fun q hq => by rw [e1]; exact hk q (by omega) (fun z => absurd hq (Nat.not_lt.mpr z))
  obtain ⟨t2, a1, b1⟩ := kk T'.heap (locs ++ L) (hB.join (by rw [e1]; exact hz) hk' (by rw [e1]; exact hP) ⟨Nat.le_trans hS.1 (by rw [e1]; exact hz2), fun q h1 h2 => by
      rw [hk' q (by
        have : ¬ b ≤ q := h2
        omega)]
      exact hS.2.1 q h1 h2, fun q hq => by
      rcases List.mem_append.mp hq with h | h
      · exact hS.2.2 q h
      · have := hL q h
        show b ≤ q.base
        omega⟩) T' rfl X'
  exact ⟨t2, st t2 a1, b1⟩
end CT
theorem ctorOf {l : Launch} {D : va_G} {tc : Nat → Nat} {h ci nL mc ms : Nat} {fs as : List Value} {X : State → Prop} {y : MethodName} {bs : ByteArray} {rm : Room} {Qc : Array Value → State → Outcome → State → Prop} (hpl : plainName y.cls = true) (hn : y.name = "<init>") (hla : (lg_sl (.ref h :: as)).length ≤ nL)
    (body : ∀ (p : Program) (e : Env) (s : State) (m : MethodId) (below : List Frame) (meth : Method) (c : Code) (ls : Array Slot), Kx p s m (Value.ref h :: as).toArray meth c bs nL y.cls D tc h → lv_has ls nL (lv_args 0 (.ref h :: as)) → Bx D h s [.inr (ci, fs)] s.heap [] → X s → W p l e rm s m (Value.ref h :: as).toArray below meth c s.heap [] 0 0 (MQ below Qc (Value.ref h :: as).toArray s mc ms (fun q => h ≤ q)) (F0 m 0 ls [])) : Met l y (wsC y bs nL) rm (PcC D tc h ci fs as X) Qc mc ms (fun q => h ≤ q) := by
  refine Met.ofW (cc := bs) (maxL := nL) (ret := none) hpl rfl ?_
  intro p e s m args below meth c s₁ B hml hv
  obtain ⟨rfl, hsz, hat, hK, hA, hX⟩ := hv
  have hts := atoms_spec (ws := wsC y bs nL) B.pre
  have hnm : meth.name = "<init>" := ((name_of_methodNamed B.named B.method).1).trans hn
  have hl := lv_entry (.ref h :: as) (n := nL) hla
  rw [lg_entry_eq]
  refine body p e s m below meth c _ ⟨⟨B.exec, B.bytes, hml, findClass_of_methodNamed B.named, fun w hw => hts w (List.mem_cons_of_mem _ hw)⟩, hK, hnm, B.notSynchronized, B.returns, hsz, hA⟩ hl ⟨hsz, fun k q hk => ?_, va_S.rf⟩ hX
  obtain ⟨h1, h2⟩ := wb_some hk
  obtain ⟨h3, h4⟩ := one_at h1
  subst h3
  obtain ⟨a, z⟩ := q
  dsimp only at h2 h4
  rw [h2, h4]
  exact hat
